import java.util.Arrays;

/** Promise 10: follow, and what is scored by it. */
public final class FollowTest {
    private static final int BAD = RealmTiles.BAD;
    /** The places around the centre, sides and corners by turns. */
    private static final int[] RING = {1, 0, 1, 1, 0, 1, -1, 1, -1, 0, -1, -1, 0, -1, 1, -1};

    public static void main(String[] args) {
        refusals();
        cities();
        shields();
        paths();
        ties();
        cloisters();
        eachLastOne();
        cloisterThatFillsAGap();
        fieldsStay();
        lastFollower();
        severalAtOnce();
        Check.end();
    }

    private static void points(RealmTiles x, int... want) {
        for (int p = 0; p < want.length; p++) {
            Check.due("points of player " + p, x.player(p, 0), want[p]);
        }
    }

    private static void left(RealmTiles x, int... want) {
        for (int p = 0; p < want.length; p++) {
            Check.due("followers of player " + p, x.player(p, 1), want[p]);
        }
    }

    private static void refusals() {
        RealmTiles x = Tile.gameOf(2, Tile.GATE, Tile.GATE);
        Check.due("before a tile is laid", x.follow(-1), BAD);
        Check.due("on a part before a tile is laid", x.follow(0), BAD);
        x.place(0, 0, 0);
        for (int part : new int[] {-2, 2, 7, 8, 9, Integer.MAX_VALUE, Integer.MIN_VALUE}) {
            Check.due("follow(" + part + ")", x.follow(part), BAD);
        }
        Check.due("a step that is refused is none", x.game(3), 1);
        Check.due("follow(1)", x.follow(1), 0);
        Check.due("twice", x.follow(0), BAD);
        x.place(1, 0, 0);
        Check.due("on the field of another", x.follow(1), BAD);
        Check.due("on the new city", x.follow(0), 0);
        left(x, 6, 6);
    }

    private static void cities() {
        RealmTiles x = Tile.gameOf(2, Tile.GATE, Tile.STREET, Tile.GATE, Tile.GATE, Tile.GATE);
        Tile.turn(x, 0, 0, 0, 0, 0);
        Tile.turn(x, 0, -1, 0, 1, 0);
        Tile.turn(x, 0, -2, 2, -1, 6);
        points(x, 6, 0);
        left(x, 7, 6);
        // A city that is finished by the tile with the follower on it is scored at once.
        Tile.turn(x, 1, 0, 0, 0, 0);
        x.place(1, -1, 2);
        Check.due("city of another", x.follow(0), BAD);
        Check.due("points for the other", x.follow(-1), 4);
        points(x, 6, 4);
        x.undo();
        x.undo();
        x.undo();
        x.follow(-1);
        x.place(1, -1, 2);
        Check.due("the follower comes back", x.follow(0), 4);
        left(x, 7, 6);
        points(x, 10, 0);
    }

    private static void shields() {
        RealmTiles x = Tile.gameOf(2, Tile.SHIELD_GATE, Tile.SHIELD_GATE);
        Tile.turn(x, 0, 0, 0, 0, 0);
        Tile.turn(x, 0, -1, 2, -1, 8);
        points(x, 8, 0);
        // Two cities of one tile in one region: the tile counts once, its shields each.
        Tile hook = Tile.of("000000111111", "CF", 1, 0);
        x = Tile.gameOf(2, Tile.of("000111222222", "SSF", 2, 0, 2, 1), hook, hook, hook);
        Tile.turn(x, 0, 0, 0, 0, 0);
        Tile.turn(x, 0, -1, 1, -1, 0);
        Tile.turn(x, 1, -1, 2, -1, 0);
        Tile.turn(x, 1, 0, 3, -1, 12);
        Check.due("tiles", x.about(0, 1), 4);
        Check.due("shields", x.about(0, 2), 2);
    }

    private static void paths() {
        RealmTiles x = Tile.gameOf(3, Tile.END, Tile.ROAD, Tile.END, Tile.MEADOW);
        Tile.turn(x, 0, 0, 0, -1, 0);
        Tile.turn(x, 0, -1, 0, 0, 0);
        Tile.turn(x, 0, -2, 2, -1, 3);
        points(x, 0, 3, 0);
        left(x, 7, 7, 7);
        Check.due("no follower stays", x.about(1, 6), 0);
        // A path in a ring begins and ends on the crossing, which counts once.
        Tile cross = Tile.of("041152263370", "FFFFPPPP");
        x = Tile.gameOf(2, cross, Tile.BEND, Tile.BEND, Tile.BEND);
        Tile.turn(x, 0, 0, 0, 4, 0);
        Tile.turn(x, 0, -1, 1, -1, 0);
        Tile.turn(x, 1, -1, 2, -1, 0);
        Tile.turn(x, 1, 0, 3, -1, 4);
        points(x, 4, 0);
    }

    private static void ties() {
        // Two gates with a follower each are joined by a street.
        RealmTiles x = Tile.gameOf(3, Tile.GATE, Tile.MEADOW, Tile.MEADOW, Tile.MEADOW, Tile.GATE, Tile.STREET, Tile.MEADOW);
        Tile.turn(x, 0, 0, 0, 0, 0);
        Tile.turn(x, 1, 0, 0, -1, 0);
        Tile.turn(x, 1, -1, 0, -1, 0);
        Tile.turn(x, 1, -2, 0, -1, 0);
        Tile.turn(x, 0, -2, 2, 0, 0);
        left(x, 6, 6, 7);
        x.place(0, -1, 0);
        Check.due("no third one", x.follow(0), BAD);
        Check.due("both get the points", x.follow(-1), 12);
        points(x, 6, 6, 0);
        left(x, 7, 7, 7);
        x.undo();
        points(x, 0, 0, 0);
        left(x, 6, 6, 7);
        Check.due("follower of player 0", x.about(0, 5), 1);
        Check.due("follower of player 1", x.about(0, 6), 1);
    }

    private static RealmTiles abbeys() {
        Tile[] tiles = new Tile[24];
        Arrays.fill(tiles, Tile.ABBEY);
        return Tile.gameOf(2, tiles);
    }

    private static void cloisters() {
        RealmTiles x = abbeys();
        Tile.turn(x, 0, 0, 0, 1, 0);
        for (int n = 0; n < 7; n++) {
            Tile.turn(x, RING[2 * n], RING[2 * n + 1], n % 4, -1, 0);
        }
        Check.due("not finished", x.about(1, 4), 0);
        Tile.turn(x, 1, -1, 0, -1, 9);
        points(x, 9, 0);
        left(x, 7, 7);
        Check.due("finished", x.about(1, 4), 1);
    }

    /** Whichever of the eight tiles around it comes last. */
    private static void eachLastOne() {
        for (int last = 0; last < 8; last++) {
            RealmTiles x = abbeys();
            Tile.turn(x, 0, 0, 0, 1, 0);
            for (int n = 0; n < 8; n++) {
                // The sides come before the corners, so that each tile has a neighbour.
                int at = n < 4 ? 2 * n : 2 * n - 7;
                if (at != last) {
                    Tile.turn(x, RING[2 * at], RING[2 * at + 1], 0, -1, 0);
                }
            }
            Tile.turn(x, RING[2 * last], RING[2 * last + 1], 0, -1, 9);
        }
    }

    /** The last one of a ring is a cloister itself: it is scored with its own follower. */
    private static void cloisterThatFillsAGap() {
        RealmTiles x = abbeys();
        Tile.turn(x, 0, 0, 0, 1, 0);
        int[] way = {1, 0, 2, 0, 2, 1, 2, 2, 1, 2, 0, 2, 0, 1};
        for (int n = 0; n < 7; n++) {
            Tile.turn(x, way[2 * n], way[2 * n + 1], 0, -1, 0);
        }
        Tile.turn(x, 1, 1, 0, 1, 9);
        points(x, 9, 0);
        left(x, 6, 7);
    }

    private static void fieldsStay() {
        RealmTiles x = Tile.gameOf(2, Tile.of("000111222333", "CCCC"), Tile.GATE, Tile.GATE);
        Tile.turn(x, 0, 0, 0, -1, 0);
        Tile.turn(x, 0, -1, 2, 1, 0);
        Check.due("a field is not finished", x.about(9, 4), 0);
        left(x, 7, 6);
        // A field shut in on all sides is no finished region either.
        x = Tile.gameOf(2, Tile.of("000000000111", "CF", 1, 0), Tile.of("000000000111", "CF", 1, 0));
        Tile.turn(x, 0, 0, 0, 1, 0);
        Tile.turn(x, -1, 0, 2, -1, 0);
        Check.due("no open slots", x.about(1, 3), 0);
        Check.due("kind", x.about(1, 0), RealmTiles.FIELD);
        Check.due("not finished", x.about(1, 4), 0);
        left(x, 6, 7);
    }

    private static void lastFollower() {
        RealmTiles x = abbeys();
        for (int n = 0; n < 14; n++) {
            Tile.turn(x, n < 10 ? n : 9, n < 10 ? 0 : n - 9, 0, 1, 0);
        }
        left(x, 0, 0);
        x.place(-1, 0, 0);
        Check.due("none is left", x.follow(1), BAD);
        Check.due("a tile is laid", x.game(4), 1);
        Check.due("none", x.follow(-1), 0);
    }

    private static void severalAtOnce() {
        // The tile in the midst finishes a city in the north of it and one in the south of it.
        RealmTiles x = Tile.gameOf(2, Tile.MEADOW, Tile.GATE, Tile.MEADOW, Tile.MEADOW, Tile.GATE, Tile.SHIELD_TWINS,
            Tile.MEADOW);
        Tile.turn(x, 0, 0, 0, -1, 0);
        Tile.turn(x, 1, 0, 2, 0, 0);
        Tile.turn(x, 0, 1, 0, -1, 0);
        Tile.turn(x, 0, 2, 0, -1, 0);
        Tile.turn(x, 1, 2, 0, 0, 0);
        Tile.turn(x, 1, 1, 0, -1, 12);
        points(x, 6, 6);
        left(x, 7, 7);
        x.undo();
        Check.due("instead, on a city that has one", x.follow(0), BAD);
        Check.due("on the field between, which has none", x.follow(2), 12);
        left(x, 7, 6);
        Check.due("whose turn", x.game(0), 0);
        Check.due("number of the field", x.region(1, 1, 2), 0);
    }
}
