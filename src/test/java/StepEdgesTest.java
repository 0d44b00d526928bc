/** The boundary cases of promises 9 to 11, sentence by sentence: place, follow and undo. */
public final class StepEdgesTest {
    private static final int NONE = RealmTiles.NONE, BAD = RealmTiles.BAD;
    private static final int LEAST = Integer.MIN_VALUE, GREATEST = Integer.MAX_VALUE;
    /** Numbers that are out of any range, or that would be in it if they were multiplied and cut off. */
    private static final int[] ODD = {-100, -22, -21, -20, -19, -10, 10, 19, 20, 21, 22, 100, 1 << 16, 1 << 28, 1 << 29,
        1 << 30, -(1 << 30), LEAST, LEAST + 1, GREATEST, GREATEST - 1};

    public static void main(String[] args) {
        placeNumbers();
        placeOfNothing();
        placeOutside();
        placeInNoTurn();
        placeThatDoesNotFit();
        followNone();
        pointsOfAll();
        followOnNothing();
        followOnNoPart();
        followWhereOneStands();
        followWithNoneLeft();
        undoOfEach();
        undoOfAll();
        undoOfNothing();
        Check.end();
    }

    private static void refusedPlace(RealmTiles x, int px, int py, int turn) {
        Check.due("place(" + px + ", " + py + ", " + turn + ")", x.place(px, py, turn), BAD);
    }

    private static void refusedFollow(RealmTiles x, int part) {
        Check.due("follow(" + part + ")", x.follow(part), BAD);
    }

    private static void placeNumbers() {
        Check.sentence("Promise 9: Lays the drawn tile. Answers its number");
        RealmTiles x = Tile.gameOf(2, Tile.MEADOW, Tile.CORE, Tile.GATE);
        Check.due("the first", x.place(0, 0, 2), 0);
        Check.due("it lies there", x.region(0, 0, 0), 0);
        x.follow(-1);
        Check.due("one put aside has no number", x.place(0, 1, 1), 1);
        Check.due("it is the drawn one", x.about(8, 0), RealmTiles.CITY);
        x.undo();
        Check.due("laid otherwise", x.place(-1, 0, 3), 1);
        x = Tile.gameOfAll(3, Tile.MEADOW, 24);
        for (int n = 0; n < 24; n++) {
            Check.due("place", x.place(n % 8, n / 8, 0), n);
            x.follow(-1);
        }
    }

    private static void placeOfNothing() {
        Check.sentence("Promise 9: BAD, refused, when there is none");
        RealmTiles x = new RealmTiles();
        refusedPlace(x, 0, 0, 0);
        Tile.GATE.giveTo(x);
        x.draw(0);
        Snapshot before = Snapshot.of(x);
        refusedPlace(x, 0, 0, 0);
        before.holds();
        x.start(2);
        x.place(0, 0, 0);
        before = Snapshot.of(x);
        refusedPlace(x, 0, 0, 0);
        refusedPlace(x, 0, -1, 2);
        refusedPlace(x, 1, 0, 0);
        before.holds();
        x.follow(0);
        before = Snapshot.of(x);
        refusedPlace(x, 0, -1, 2);
        refusedPlace(x, 1, 0, 0);
        before.holds();
        x.clear();
        refusedPlace(x, 0, 0, 0);
    }

    private static void placeOutside() {
        Check.sentence("Promise 9: BAD, refused, when [..] it does not fit there (x and y from -9 to 9)");
        RealmTiles x = Tile.gameOfAll(2, Tile.MEADOW, 3);
        Snapshot before = Snapshot.of(x);
        for (int odd : ODD) {
            refusedPlace(x, odd, 0, 0);
            refusedPlace(x, 0, odd, 0);
            // Where rows of 21 places, counted on, would have the middle.
            refusedPlace(x, odd, -1, 0);
            refusedPlace(x, odd, 1, 0);
        }
        before.holds();
        Tile.turn(x, 0, 0, 0, -1, 0);
        x = Tile.gameOfAll(2, Tile.MEADOW, 12);
        for (int n = 0; n < 10; n++) {
            Tile.turn(x, n, 0, 0, -1, 0);
        }
        refusedPlace(x, 10, 0, 0);
        refusedPlace(x, -10, 1, 0);
        refusedPlace(x, -9, 1, 0);
        Tile.turn(x, 9, 1, 0, -1, 0);
        Check.due("tiles", x.game(1), 11);
    }

    private static void placeInNoTurn() {
        Check.sentence("Promise 9: BAD, refused, when [..] it does not fit there (a TURN 0 .. 3)");
        RealmTiles x = Tile.gameOfAll(2, Tile.MEADOW, 2);
        Snapshot before = Snapshot.of(x);
        for (int px = -2; px <= 2; px++) {
            for (int turn = -8; turn < 12; turn++) {
                if (px != 0 || turn < 0 || turn > 3) {
                    refusedPlace(x, px, 0, turn);
                }
            }
        }
        for (int turn : ODD) {
            refusedPlace(x, 0, 0, turn);
        }
        before.holds();
        for (int turn = 0; turn < 4; turn++) {
            Check.due("turn " + turn, x.place(0, 0, turn), 0);
            x.undo();
        }
    }

    private static void placeThatDoesNotFit() {
        Check.sentence("Promise 9: BAD, refused, when [..] it does not fit there");
        RealmTiles x = Tile.gameOf(2, Tile.GATE, Tile.GATE, Tile.GATE);
        Snapshot before = Snapshot.of(x);
        refusedPlace(x, 1, 0, 0);
        refusedPlace(x, 0, -1, 0);
        before.holds();
        Tile.turn(x, 0, 0, 0, 0, 0);
        before = Snapshot.of(x);
        refusedPlace(x, 0, 0, 0);
        refusedPlace(x, 1, 1, 0);
        refusedPlace(x, 2, 0, 0);
        refusedPlace(x, 0, -1, 0);
        refusedPlace(x, 0, -1, 1);
        refusedPlace(x, 0, -1, 3);
        refusedPlace(x, -1, 0, 1);
        refusedPlace(x, 1, 0, 3);
        refusedPlace(x, 0, 1, 0);
        before.holds();
        Check.due("it still can be laid", x.place(0, -1, 2), 1);
    }

    private static void followNone() {
        Check.sentence("Promise 10: or, with part = -1, none");
        RealmTiles x = Tile.gameOfAll(2, Tile.ABBEY, 2);
        x.place(0, 0, 0);
        Check.due("follow(-1)", x.follow(-1), 0);
        Check.due("followers left", x.player(0, 1), 7);
        Check.due("none on the field", x.about(0, 5), 0);
        Check.due("none on the cloister", x.about(1, 5), 0);
        Check.due("the turn is over", x.game(0), 1);
        Check.due("it was a step", x.game(3), 2);
    }

    private static void pointsOfAll() {
        Check.sentence("Promise 10: the points that all got by that, together");
        RealmTiles x = Tile.gameOfAll(2, Tile.MEADOW, 1);
        x.place(0, 0, 0);
        Check.due("none", x.follow(0), 0);
        x = Tile.gameOf(2, Tile.END, Tile.MEADOW, Tile.END);
        Tile.turn(x, 0, 0, 1, 1, 0);
        Tile.turn(x, 0, 1, 0, -1, 0);
        x.place(1, 0, 3);
        Check.due("those of one", x.follow(-1), 2);
        // Two ends of a path, with a follower of each player, are joined by a road between them.
        x = Tile.gameOf(2, Tile.END, Tile.MEADOW, Tile.MEADOW, Tile.MEADOW, Tile.MEADOW, Tile.END, Tile.ROAD);
        Tile.turn(x, 0, 0, 1, 1, 0);
        for (int n = 0; n < 4; n++) {
            Tile.turn(x, n, 1, 0, -1, 0);
        }
        Tile.turn(x, 2, 0, 3, 1, 0);
        x.place(1, 0, 1);
        Check.due("those of both", x.follow(-1), 6);
        Check.due("points of player 0", x.player(0, 0), 3);
        Check.due("points of player 1", x.player(1, 0), 3);
    }

    private static void followOnNothing() {
        Check.sentence("Promise 10: BAD, refused, when no tile is laid in this turn");
        RealmTiles x = new RealmTiles();
        refusedFollow(x, -1);
        x = Tile.gameOfAll(2, Tile.ABBEY, 2);
        for (int n = 0; n < 2; n++) {
            Snapshot before = Snapshot.of(x);
            for (int part = -1; part < 3; part++) {
                refusedFollow(x, part);
            }
            before.holds();
            x.place(n, 0, 0);
            x.follow(1);
        }
        Snapshot over = Snapshot.of(x);
        for (int part = -1; part < 3; part++) {
            refusedFollow(x, part);
        }
        over.holds();
        x.clear();
        refusedFollow(x, -1);
    }

    private static void followOnNoPart() {
        Check.sentence("Promise 10: BAD, refused, when [..] there is no such part");
        RealmTiles x = Tile.gameOfAll(2, Tile.of("333333333333", "...F.M"), 4);
        Tile.turn(x, 0, 0, 0, -1, 0);
        Tile.turn(x, 1, 0, 0, -1, 0);
        x.place(2, 0, 0);
        Snapshot before = Snapshot.of(x);
        for (int part = -24; part < 24; part++) {
            // Those 8 or 16 less than a part's are IDs of earlier tiles' parts, counted from this one.
            if (part != -1 && part != 3 && part != 5) {
                refusedFollow(x, part);
            }
        }
        for (int part : ODD) {
            refusedFollow(x, part);
        }
        before.holds();
        Check.due("a part that is there", x.follow(5), 0);
        Check.due("its follower", x.about(21, 5), 1);
        // A tile of all parts: none is behind its last one, nor before its first one.
        x = Tile.gameOfAll(2, Tile.of("041152263370", "FFFFPPPP"), 2);
        x.place(0, 0, 0);
        refusedFollow(x, 8);
        refusedFollow(x, -2);
        Check.due("the last part", x.follow(7), 0);
    }

    private static void followWhereOneStands() {
        Check.sentence("Promise 10: BAD, refused, when [..] it may not be put there (the piece's region has none of any "
            + "player)");
        RealmTiles x = Tile.gameOf(2, Tile.TWINS, Tile.GATE, Tile.GATE);
        Tile.turn(x, 0, 0, 0, 0, 0);
        x.place(0, -1, 2);
        Snapshot before = Snapshot.of(x);
        refusedFollow(x, 0);
        before.holds();
        Check.due("the field", x.follow(1), 4);
        x.place(0, 1, 0);
        Check.due("a city without followers, finished", x.follow(0), 4);
        x.undo();
        Check.due("the other one is scored, but a field is not", x.follow(1), 0);
        Check.due("points", x.player(0, 0), 4);
        x = Tile.gameOfAll(2, Tile.MEADOW, 3);
        Tile.turn(x, 0, 0, 0, 0, 0);
        Tile.turn(x, 1, 0, 0, -1, 0);
        x.place(2, 0, 0);
        before = Snapshot.of(x);
        refusedFollow(x, 0);
        before.holds();
        Check.due("none", x.follow(-1), 0);
    }

    private static void followWithNoneLeft() {
        Check.sentence("Promise 10: BAD, refused, when [..] it may not be put there (the player has one left)");
        RealmTiles x = Tile.gameOfAll(3, Tile.ABBEY, 24);
        for (int n = 0; n < 21; n++) {
            int px = n < 10 ? n : n < 20 ? 9 : 8;
            int py = n < 10 ? 0 : n < 19 ? n - 9 : n == 19 ? -1 : 9;
            Tile.turn(x, px, py, 0, n % 3 == 1 && n > 3 ? -1 : 1, 0);
        }
        Check.due("player 0", x.player(0, 1), 0);
        Check.due("player 1", x.player(1, 1), 6);
        Check.due("player 2", x.player(2, 1), 0);
        x.place(-1, 0, 0);
        refusedFollow(x, 1);
        Check.due("a follower may not, but none may", x.follow(-1), 0);
        x.place(-2, 0, 0);
        Check.due("who has some", x.follow(1), 0);
        x.place(-3, 0, 0);
        refusedFollow(x, 1);
        Check.due("tiles", x.game(1), 24);
    }

    /** What stands before each step stands again when it is taken back. */
    private static void undoOfEach() {
        Check.sentence("Promise 11: Takes the last step back. Answers true");
        int[] place = {0, 0, 0, 0, -1, 2, 1, 0, 0};
        int[] part = {0, 1, 0};
        for (int step = 0; step < 6; step++) {
            RealmTiles x = Tile.gameOf(2, Tile.GATE, Tile.SHIELD_GATE, Tile.CROWN, Tile.GATE);
            for (int n = 0; n < step; n++) {
                step(x, n, place, part);
            }
            Snapshot before = Snapshot.of(x);
            step(x, step, place, part);
            Check.due("undo of step " + step, x.undo(), true);
            before.holds();
        }
    }

    private static void step(RealmTiles x, int n, int[] place, int[] part) {
        if (n % 2 == 0) {
            Check.due("place", x.place(place[3 * (n / 2)], place[3 * (n / 2) + 1], place[3 * (n / 2) + 2]), n / 2);
        } else {
            Check.due("follow", x.follow(part[n / 2]) != BAD, true);
        }
    }

    private static void undoOfAll() {
        Check.sentence("Promise 11: Takes the last step back. Answers true; false, refused, when there is none");
        RealmTiles x = Tile.gameOfAll(3, Tile.ABBEY, 24);
        Snapshot begun = Snapshot.of(x);
        for (int n = 0; n < 24; n++) {
            Check.due("place", x.place(n % 5, n / 5, n % 4), n);
            Check.due("follow", x.follow(n < 21 ? 1 : -1) != BAD, true);
        }
        Check.due("steps", x.game(3), 48);
        for (int n = 0; n < 48; n++) {
            Check.due("undo " + n, x.undo(), true);
        }
        Check.due("undo 48", x.undo(), false);
        begun.holds();
    }

    private static void undoOfNothing() {
        Check.sentence("Promise 11: false, refused, when there is none");
        RealmTiles x = new RealmTiles();
        Check.due("new object", x.undo(), false);
        Tile.ABBEY.giveTo(x);
        x.draw(0);
        x.draw(0);
        Snapshot before = Snapshot.of(x);
        Check.due("a list but no game", x.undo(), false);
        before.holds();
        x.start(2);
        before = Snapshot.of(x);
        Check.due("begun", x.undo(), false);
        before.holds();
        Tile.turn(x, 0, 0, 0, 1, 0);
        x.start(2);
        Check.due("begun anew", x.undo(), false);
        before.holds();
        Tile.turn(x, 0, 0, 0, 1, 0);
        x.clear();
        Check.due("cleared", x.undo(), false);
        Check.due("drawn", x.drawn(), NONE);
        Check.due("tiles", x.game(1), 0);
    }
}
