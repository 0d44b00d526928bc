import java.util.Arrays;

/** The boundary cases of promises 6 to 8 and 12 to 14: drawn, game, fits, region, about and player. */
public final class TellEdgesTest {
    private static final int NONE = RealmTiles.NONE, BAD = RealmTiles.BAD, FAR = RealmTiles.FAR;
    private static final int LEAST = Integer.MIN_VALUE, GREATEST = Integer.MAX_VALUE;
    /** Numbers that are out of any range, or that would be in it if they were counted on or cut off. */
    private static final int[] ODD = {-2, -9, -256, 9, 16, 256, 1 << 16, 1 << 29, 1 << 30, -(1 << 30), LEAST, GREATEST,
        LEAST + 1, GREATEST - 1};

    public static void main(String[] args) {
        drawn();
        noneDrawn();
        whoseTurn();
        counts();
        mayFollow();
        withoutAGame();
        gameOfNoK();
        orderOfFits();
        fitsBeyond();
        fitsWithNothingToLay();
        fitsOfNoK();
        regionOfNoTile();
        regionOfNoPart();
        aboutAll();
        aboutNoRegion();
        aboutNoK();
        playersAll();
        finalPointsBetween();
        noPlayer();
        playerOfNoK();
        Check.end();
    }

    private static void drawn() {
        Check.sentence("Promise 6: The type of the tile that is drawn and not laid");
        RealmTiles x = Tile.gameOf(2, Tile.MEADOW, Tile.CORE, Tile.GATE, Tile.ROAD);
        Check.due("begun", x.drawn(), 0);
        x.place(0, 0, 0);
        x.follow(-1);
        Check.due("the one that is put aside is passed over", x.drawn(), 2);
        x.place(0, -1, 0);
        x.undo();
        Check.due("taken back", x.drawn(), 2);
        x.undo();
        x.undo();
        Check.due("taken back to the begin", x.drawn(), 0);
    }

    private static void noneDrawn() {
        Check.sentence("Promise 6: NONE when there is none");
        RealmTiles x = new RealmTiles();
        Check.due("new object", x.drawn(), NONE);
        Tile.GATE.giveTo(x);
        x.draw(0);
        Check.due("a list but no game", x.drawn(), NONE);
        x.start(2);
        x.place(0, 0, 0);
        Check.due("laid", x.drawn(), NONE);
        x.follow(-1);
        Check.due("over", x.drawn(), NONE);
        x.undo();
        Check.due("laid again", x.drawn(), NONE);
        x.clear();
        Check.due("cleared", x.drawn(), NONE);
    }

    private static void whoseTurn() {
        Check.sentence("Promise 7: k = 0: whose turn it is, NONE when there is no game or it is over");
        RealmTiles x = new RealmTiles();
        Check.due("new object", x.game(0), NONE);
        Tile.ABBEY.giveTo(x);
        for (int n = 0; n < 4; n++) {
            x.draw(0);
        }
        Check.due("a list but no game", x.game(0), NONE);
        x.start(3);
        for (int n = 0; n < 4; n++) {
            Check.due("to lay tile " + n, x.game(0), n % 3);
            x.place(n, 0, 0);
            Check.due("to follow on tile " + n, x.game(0), n % 3);
            x.follow(1);
        }
        Check.due("over", x.game(0), NONE);
        x.undo();
        Check.due("no more over", x.game(0), 0);
        x.clear();
        Check.due("cleared", x.game(0), NONE);
    }

    private static void counts() {
        Check.sentence("Promise 7: 1: how many tiles are on the table; 2: how many were put aside; 3: how many steps can "
            + "be taken back; [..] 5: how many tiles of the list were not drawn yet");
        Tile[] tiles = new Tile[24];
        Arrays.fill(tiles, Tile.ABBEY);
        tiles[3] = Tile.CORE;
        tiles[23] = Tile.CORE;
        RealmTiles x = Tile.gameOf(2, tiles);
        for (int n = 0; n <= 22; n++) {
            int passed = n < 3 ? n : n < 22 ? n + 1 : n + 2;
            Check.due("tiles", x.game(1), n);
            Check.due("aside", x.game(2), n < 3 ? 0 : n < 22 ? 1 : 2);
            Check.due("steps", x.game(3), 2 * n);
            Check.due("not drawn", x.game(5), n < 22 ? 23 - passed : 0);
            if (n < 22) {
                x.place(n % 8, n / 8, 0);
                Check.due("tiles when laid", x.game(1), n + 1);
                Check.due("steps when laid", x.game(3), 2 * n + 1);
                x.follow(-1);
            }
        }
    }

    private static void mayFollow() {
        Check.sentence("Promise 7: 4: 1 if a tile is laid and a follower may follow, else 0");
        RealmTiles x = Tile.gameOfAll(2, Tile.ABBEY, 1);
        Check.due("begun", x.game(4), 0);
        x.place(0, 0, 0);
        Check.due("laid", x.game(4), 1);
        x.follow(7);
        Check.due("after a follower that was refused", x.game(4), 1);
        x.follow(1);
        Check.due("over", x.game(4), 0);
        x.undo();
        Check.due("taken back", x.game(4), 1);
        x.undo();
        Check.due("taken back to the begin", x.game(4), 0);
    }

    private static void withoutAGame() {
        Check.sentence("Promise 7: (without a game 1 to 4 are 0, 5 the length of the list)");
        RealmTiles x = new RealmTiles();
        Tile.GATE.giveTo(x);
        for (int length = 0; length <= 24; length++) {
            for (int k = 1; k <= 4; k++) {
                Check.due("game(" + k + ")", x.game(k), 0);
            }
            Check.due("length", x.game(5), length);
            x.draw(0);
        }
        x.start(2);
        Tile.turn(x, 0, 0, 0, -1, 0);
        x.place(0, -1, 2);
        x.clear();
        for (int k = 1; k <= 5; k++) {
            Check.due("cleared: game(" + k + ")", x.game(k), 0);
        }
        Tile.GATE.giveTo(x);
        x.draw(0);
        Check.due("a new list", x.game(5), 1);
    }

    private static void gameOfNoK() {
        Check.sentence("Promise 7: BAD when k is none of these");
        RealmTiles[] all = {new RealmTiles(), Tile.gameOfAll(2, Tile.ABBEY, 2)};
        all[1].place(0, 0, 0);
        for (RealmTiles x : all) {
            Check.due("game(-1)", x.game(-1), BAD);
            Check.due("game(6)", x.game(6), BAD);
            for (int k : ODD) {
                Check.due("game(" + k + ")", x.game(k), BAD);
            }
        }
    }

    private static void orderOfFits() {
        Check.sentence("Promise 8: Of the i-th place and turn at which the drawn tile fits (from 0, by y, then x, then "
            + "turns): k = 0 x, 1 y, 2 the turn");
        RealmTiles x = Tile.gameOfAll(2, Tile.MEADOW, 3);
        for (int turn = 0; turn < 4; turn++) {
            Check.due("x of the first tile", x.fits(turn, 0), 0);
            Check.due("y of the first tile", x.fits(turn, 1), 0);
            Check.due("turn of the first tile", x.fits(turn, 2), turn);
        }
        Tile.turn(x, 0, 0, 0, -1, 0);
        Tile.turn(x, 1, 0, 0, -1, 0);
        int[] places = {0, -1, 1, -1, -1, 0, 2, 0, 0, 1, 1, 1};
        for (int i = 0; i < 24; i++) {
            Check.due("x", x.fits(i, 0), places[i / 4 * 2]);
            Check.due("y", x.fits(i, 1), places[i / 4 * 2 + 1]);
            Check.due("turn", x.fits(i, 2), i % 4);
        }
        // The first and the last place of the table.
        x = Tile.gameOfAll(2, Tile.MEADOW, 20);
        for (int n = 0; n < 18; n++) {
            Tile.turn(x, n < 10 ? -n : -9, n < 10 ? 0 : 9 - n, 0, -1, 0);
        }
        Check.due("x of the first place", x.fits(0, 0), -9);
        Check.due("y of the first place", x.fits(3, 1), -9);
        x = Tile.gameOfAll(2, Tile.MEADOW, 20);
        for (int n = 0; n < 18; n++) {
            Tile.turn(x, n < 10 ? n : 9, n < 10 ? 0 : n - 9, 0, -1, 0);
        }
        int last = 0;
        while (x.fits(last + 1, 0) != FAR) {
            last++;
        }
        Check.due("x of the last place", x.fits(last, 0), 9);
        Check.due("y of the last place", x.fits(last, 1), 9);
        Check.due("its turn", x.fits(last, 2), 3);
    }

    private static void fitsBeyond() {
        Check.sentence("Promise 8: FAR when there are not so many");
        RealmTiles x = Tile.gameOfAll(2, Tile.GATE, 2);
        for (int k = 0; k < 3; k++) {
            Check.due("the last", x.fits(3, k) != FAR, true);
            Check.due("one more", x.fits(4, k), FAR);
            Check.due("-1", x.fits(-1, k), FAR);
            for (int i : ODD) {
                Check.due("fits(" + i + ", " + k + ")", x.fits(i, k), FAR);
            }
        }
        Tile.turn(x, 0, 0, 0, -1, 0);
        Check.due("the last of ten", x.fits(9, 2), 3);
        Check.due("an eleventh", x.fits(10, 2), FAR);
    }

    private static void fitsWithNothingToLay() {
        Check.sentence("Promise 8: FAR when [..] no tile is to be laid");
        RealmTiles x = new RealmTiles();
        Check.due("new object", x.fits(0, 0), FAR);
        Tile.GATE.giveTo(x);
        x.draw(0);
        Check.due("a list but no game", x.fits(0, 0), FAR);
        x.start(2);
        Check.due("begun", x.fits(0, 0), 0);
        x.place(0, 0, 0);
        Check.due("laid", x.fits(0, 0), FAR);
        x.follow(-1);
        Check.due("over", x.fits(0, 0), FAR);
        x.undo();
        Check.due("laid again", x.fits(0, 2), FAR);
        x.undo();
        Check.due("to be laid again", x.fits(0, 2), 0);
        x.clear();
        Check.due("cleared", x.fits(0, 0), FAR);
    }

    private static void fitsOfNoK() {
        Check.sentence("Promise 8: FAR when [..] k is none of these");
        RealmTiles x = Tile.gameOfAll(2, Tile.GATE, 1);
        for (int i = 0; i < 4; i++) {
            Check.due("k = -1", x.fits(i, -1), FAR);
            Check.due("k = 3", x.fits(i, 3), FAR);
            for (int k : ODD) {
                Check.due("k = " + k, x.fits(i, k), FAR);
            }
        }
    }

    private static void regionOfNoTile() {
        Check.sentence("Promise 12: NONE when there is no such tile");
        RealmTiles x = new RealmTiles();
        Check.due("new object", x.region(0, 0, 0), NONE);
        x = Tile.gameOfAll(2, Tile.ABBEY, 2);
        Check.due("begun", x.region(0, 0, 0), NONE);
        x.place(0, 0, 0);
        Check.due("laid", x.region(0, 0, 0), 0);
        // Places that lie where rows of 19 or 21 places, counted on, would have the one at (0, 0).
        int[] places = {1, 0, 0, 1, -1, -1, 9, 9, -9, -9, 10, 0, -10, 0, 0, 10, 0, -10, 19, -1, -19, 1, 21, -1, -21, 1};
        for (int n = 0; n < places.length; n += 2) {
            Check.due("at " + places[n] + ", " + places[n + 1], x.region(places[n], places[n + 1], 0), NONE);
        }
        for (int odd : ODD) {
            Check.due("x = " + odd, x.region(odd, 0, 0), NONE);
            Check.due("y = " + odd, x.region(0, odd, 0), NONE);
        }
        x.undo();
        Check.due("lifted", x.region(0, 0, 0), NONE);
        x.place(0, 0, 0);
        x.clear();
        Check.due("cleared", x.region(0, 0, 0), NONE);
    }

    private static void regionOfNoPart() {
        Check.sentence("Promise 12: NONE when there is no such [..] part");
        RealmTiles x = Tile.gameOfAll(2, Tile.of("333333333333", "...F.M"), 3);
        Tile.turn(x, 0, 0, 0, -1, 0);
        Tile.turn(x, 1, 0, 0, -1, 0);
        Tile.turn(x, 2, 0, 0, -1, 0);
        for (int part = -16; part < 24; part++) {
            Check.due("part " + part, x.region(1, 0, part), part == 3 ? 3 : part == 5 ? 13 : NONE);
        }
        for (int part : ODD) {
            Check.due("part " + part, x.region(1, 0, part), NONE);
        }
        // Of three tiles with all parts, the one in the midst has those of no other.
        x = Tile.gameOfAll(2, Tile.of("041152263370", "FFFFPPPP"), 3);
        Tile.turn(x, 0, 0, 0, -1, 0);
        Tile.turn(x, 1, 0, 0, -1, 0);
        Tile.turn(x, 2, 0, 0, -1, 0);
        for (int part = -16; part < 24; part++) {
            Check.due("part " + part + " of eight", x.region(1, 0, part) != NONE, part >= 0 && part < 8);
        }
    }

    private static void aboutAll() {
        Check.sentence("Promise 13: Of the region with a number: k = 0 its kind, 1 its tiles, 2 its shields, 3 its open "
            + "slots, 4 1 if it is finished, else 0; 5 + p the followers of player p (0, 1 or 2)");
        // A city (0), a path (2) and fields (1, 3), a cloister (5): each with its own answers.
        Tile all = Tile.of("000123111111", "SFPF.M");
        int[][] due = {{1, 1, 1, 3, 0}, {3, 1, 0, 7, 0}, {2, 1, 0, 1, 0}, {3, 1, 0, 1, 0}, null, {4, 1, 0, 0, 0}};
        for (int players = 2; players <= 3; players++) {
            for (int part = 0; part < 6; part++) {
                RealmTiles x = Tile.gameOfAll(players, all, 1);
                Tile.turn(x, 0, 0, 0, part == 4 ? -1 : part, 0);
                for (int number = 0; number < 6; number++) {
                    for (int k = 0; k < 5; k++) {
                        int want = due[number] == null ? NONE : due[number][k];
                        Check.due("about(" + number + ", " + k + ")", x.about(number, k), want);
                    }
                    int stands = number == part ? 1 : 0;
                    Check.due("followers of player 0", x.about(number, 5), number == 4 ? NONE : stands);
                    Check.due("followers of player 1", x.about(number, 6), number == 4 ? NONE : 0);
                    Check.due("followers of player 2 of " + players, x.about(number, 7), number == 4 ? NONE : 0);
                }
            }
        }
    }

    private static void aboutNoRegion() {
        Check.sentence("Promise 13: NONE when no region has this number");
        Check.due("new object", new RealmTiles().about(0, 0), NONE);
        RealmTiles x = Tile.gameOfAll(2, Tile.ABBEY, 3);
        Check.due("begun", x.about(0, 0), NONE);
        Tile.turn(x, 0, 0, 0, -1, 0);
        x.place(1, 0, 0);
        for (int number = -20; number < 40; number++) {
            boolean region = number == 0 || number == 1 || number == 9;
            for (int k = 0; k < 2; k++) {
                Check.due("about(" + number + ", " + k + ")", x.about(number, k) != NONE, region);
            }
        }
        for (int number : ODD) {
            Check.due("about(" + number + ", 0)", x.about(number, 0), number == 9 ? RealmTiles.CLOISTER : NONE);
        }
        x.undo();
        Check.due("taken back", x.about(9, 0), NONE);
        x.clear();
        Check.due("cleared", x.about(0, 0), NONE);
    }

    private static void aboutNoK() {
        Check.sentence("Promise 13: NONE when [..] k is none of these");
        RealmTiles x = Tile.gameOfAll(3, Tile.ABBEY, 1);
        Tile.turn(x, 0, 0, 0, 1, 0);
        for (int number = 0; number < 2; number++) {
            Check.due("k = -1", x.about(number, -1), NONE);
            Check.due("k = 8", x.about(number, 8), NONE);
            for (int k : ODD) {
                Check.due("k = " + k, x.about(number, k), NONE);
            }
        }
    }

    private static void playersAll() {
        Check.sentence("Promise 14: Of player p: k = 0 the points, 1 the followers left, 2 the final points");
        RealmTiles x = Tile.gameOf(3, Tile.GATE, Tile.GATE, Tile.ABBEY, Tile.MEADOW);
        Tile.turn(x, 0, 0, 0, 0, 0);
        Tile.turn(x, 0, -1, 2, 1, 4);
        Tile.turn(x, 1, 0, 0, 1, 0);
        int[][] due = {{4, 7, 4}, {0, 6, 3}, {0, 6, 3}};
        for (int p = 0; p < 3; p++) {
            for (int k = 0; k < 3; k++) {
                Check.due("player(" + p + ", " + k + ")", x.player(p, k), due[p][k]);
            }
        }
    }

    private static void finalPointsBetween() {
        Check.sentence("Promise 14: (as if the game were over now, also between laying and following)");
        RealmTiles x = Tile.gameOf(2, Tile.SHIELD_GATE, Tile.GATE, Tile.MEADOW);
        Tile.turn(x, 0, 0, 0, 0, 0);
        Check.due("before laying", x.player(0, 2), 2);
        x.place(0, -1, 2);
        Check.due("finished, but not scored yet", x.player(0, 2), 3);
        Check.due("asking does not score it", x.player(0, 0), 0);
        x.follow(-1);
        Check.due("scored", x.player(0, 2), 6);
        // Asking makes no step.
        Check.due("steps", x.game(3), 4);
    }

    private static void noPlayer() {
        Check.sentence("Promise 14: NONE when there is no game, no such player");
        RealmTiles x = new RealmTiles();
        Tile.GATE.giveTo(x);
        x.draw(0);
        for (int k = 0; k < 3; k++) {
            Check.due("no game", x.player(0, k), NONE);
        }
        for (int players = 2; players <= 3; players++) {
            x.start(players);
            for (int k = 0; k < 3; k++) {
                Check.due("the last player", x.player(players - 1, k), k == 1 ? 7 : 0);
                Check.due("one more", x.player(players, k), NONE);
                Check.due("-1", x.player(-1, k), NONE);
            }
            for (int p : ODD) {
                Check.due("player(" + p + ", 1)", x.player(p, 1), NONE);
            }
        }
        x.start(2);
        Check.due("three before, two now", x.player(2, 1), NONE);
        x.clear();
        Check.due("cleared", x.player(0, 1), NONE);
    }

    private static void playerOfNoK() {
        Check.sentence("Promise 14: NONE when [..] k is none of these");
        RealmTiles x = Tile.gameOfAll(3, Tile.ABBEY, 1);
        for (int p = 0; p < 3; p++) {
            Check.due("k = -1", x.player(p, -1), NONE);
            Check.due("k = 3", x.player(p, 3), NONE);
            for (int k : ODD) {
                Check.due("k = " + k, x.player(p, k), NONE);
            }
        }
    }
}
