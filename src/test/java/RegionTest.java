/** Promises 12 and 13: region and about. */
public final class RegionTest {
    private static final int NONE = RealmTiles.NONE;

    public static void main(String[] args) {
        wrongArguments();
        numbers();
        turned();
        stats();
        slotsSideBySide();
        Check.end();
    }

    /** Kind, tiles, shields, open slots, finished, and followers of the players. */
    private static void about(String what, RealmTiles x, int region, int... want) {
        for (int k = 0; k < want.length; k++) {
            Check.due(what + ": about(" + region + ", " + k + ")", x.about(region, k), want[k]);
        }
        Check.due(what + ": about(" + region + ", 8)", x.about(region, 8), NONE);
        Check.due(what + ": about(" + region + ", -1)", x.about(region, -1), NONE);
    }

    private static void wrongArguments() {
        RealmTiles x = Tile.gameOf(2, Tile.ABBEY, Tile.ABBEY);
        Check.due("empty table", x.region(0, 0, 0), NONE);
        Check.due("empty table", x.about(0, 0), NONE);
        x.place(0, 0, 0);
        Check.due("field", x.region(0, 0, 0), 0);
        Check.due("cloister", x.region(0, 0, 1), 1);
        for (int part : new int[] {-1, 2, 7, 8, 16, Integer.MAX_VALUE, Integer.MIN_VALUE}) {
            Check.due("part " + part, x.region(0, 0, part), NONE);
            Check.due("region " + part, x.about(part, 0), NONE);
        }
        int[][] places = {{1, 0}, {0, 1}, {9, 9}, {10, 0}, {-10, 0}, {0, 10}, {0, -10}, {21, -1},
            {Integer.MAX_VALUE, 0}, {0, Integer.MIN_VALUE}};
        for (int[] place : places) {
            Check.due("place " + place[0] + ", " + place[1], x.region(place[0], place[1], 0), NONE);
        }
    }

    private static void numbers() {
        RealmTiles x = Tile.gameOf(2, Tile.TWINS, Tile.TWINS, Tile.TWINS, Tile.GATE);
        Tile.turn(x, 0, 0, 0, -1, 0);
        Tile.turn(x, 1, 0, 0, -1, 0);
        Tile.turn(x, 1, -1, 0, -1, 0);
        x.place(0, -1, 2);
        Check.due("first city in the north", x.region(0, 0, 0), 0);
        Check.due("first city in the south", x.region(0, 0, 1), 1);
        Check.due("first field", x.region(0, 0, 2), 2);
        Check.due("second city in the north", x.region(1, 0, 0), 8);
        Check.due("field of the second", x.region(1, 0, 2), 2);
        Check.due("third city in the south", x.region(1, -1, 1), 8);
        Check.due("third city in the north", x.region(1, -1, 0), 16);
        Check.due("field of the third", x.region(1, -1, 2), 18);
        Check.due("city of the gate", x.region(0, -1, 0), 0);
        Check.due("field of the gate", x.region(0, -1, 1), 18);
        Check.due("no region: it is joined", x.about(10, 0), NONE);
        Check.due("no region: it is joined", x.about(17, 0), NONE);
        Check.due("no region: no such part", x.about(3, 0), NONE);
        Check.due("no region: no such tile", x.about(32, 0), NONE);
        about("north", x, 0, 1, 2, 0, 0, 1, 0, 0, 0);
        about("south", x, 1, 1, 1, 0, 3, 0, 0, 0, 0);
        about("field", x, 2, 3, 2, 0, 6, 0, 0, 0, 0);
        about("field of the third", x, 18, 3, 2, 0, 9, 0, 0, 0, 0);
        x.undo();
        about("field of the third alone", x, 18, 3, 1, 0, 6, 0, 0, 0, 0);
    }

    /** A later tile may join two regions; the least ID counts, not that of the later one. */
    private static void turned() {
        RealmTiles x = Tile.gameOf(2, Tile.ROAD, Tile.BEND, Tile.BEND, Tile.BEND, Tile.BEND, Tile.ROAD);
        // A ring of roads: (0, 0) north to south in the west of it, the bends at its corners.
        Tile.turn(x, 0, 0, 0, 0, 0);
        Tile.turn(x, 0, -1, 1, 2, 0);
        Tile.turn(x, 1, -1, 2, -1, 0);
        Tile.turn(x, 0, 1, 0, -1, 0);
        Tile.turn(x, 1, 1, 3, -1, 0);
        about("path before", x, 0, 2, 5, 0, 2, 0, 1, 0, 0);
        x.place(1, 0, 0);
        about("ring", x, 0, 2, 6, 0, 0, 1, 1, 0, 0);
        Check.due("inside of the first", x.region(0, 0, 2), 2);
        Check.due("inside of the last", x.region(1, 0, 1), 2);
        about("inside", x, 2, 3, 6, 0, 0, 0, 0, 1, 0);
        Check.due("outside in the west", x.region(0, 0, 1), 1);
        Check.due("outside in the east", x.region(1, 0, 2), 1);
        about("outside", x, 1, 3, 6, 0, 30, 0, 0, 0, 0);
        Check.due("the ring is scored", x.follow(-1), 6);
        about("ring without followers", x, 0, 2, 6, 0, 0, 1, 0, 0, 0);
    }

    private static void stats() {
        RealmTiles x = Tile.gameOf(3, Tile.CROWN, Tile.CORE, Tile.CROWN);
        Tile.turn(x, 0, 0, 0, 0, 0);
        about("one", x, 0, 1, 1, 1, 12, 0, 1, 0, 0);
        Tile.turn(x, 0, 1, 0, -1, 0);
        about("two", x, 0, 1, 2, 1, 18, 0, 1, 0, 0);
        x.place(1, 1, 0);
        about("three", x, 0, 1, 3, 2, 24, 0, 1, 0, 0);
        x = Tile.gameOf(3, Tile.ABBEY, Tile.ABBEY, Tile.ABBEY);
        Tile.turn(x, 0, 0, 0, -1, 0);
        Tile.turn(x, 0, 1, 0, 1, 0);
        Tile.turn(x, 1, 1, 0, 1, 0);
        about("cloister", x, 9, 4, 1, 0, 0, 0, 0, 1, 0);
        about("cloister of the third", x, 17, 4, 1, 0, 0, 0, 0, 0, 1);
    }

    /** Of a path's side the west slots lie beside the west ones, though numbered the other way. */
    private static void slotsSideBySide() {
        RealmTiles x = Tile.gameOf(2, Tile.ROAD, Tile.ROAD, Tile.END);
        Tile.turn(x, 0, 0, 0, 1, 0);
        Tile.turn(x, 0, 1, 0, 2, 0);
        Check.due("west", x.region(0, 1, 1), 1);
        Check.due("east", x.region(0, 1, 2), 2);
        about("west", x, 1, 3, 2, 0, 8, 0, 1, 0, 0);
        about("east", x, 2, 3, 2, 0, 8, 0, 0, 1, 0);
        x.undo();
        x.undo();
        Tile.turn(x, 0, 1, 2, -1, 0);
        Check.due("turned round", x.region(0, 1, 1), 2);
        Check.due("turned round", x.region(0, 1, 2), 1);
        x.place(0, 2, 0);
        Check.due("the end joins them", x.region(0, 1, 1), 1);
        about("both", x, 1, 3, 3, 0, 6 + 6 + 2 + 9, 0, 1, 0, 0);
    }
}
