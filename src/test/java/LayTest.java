import java.util.Arrays;

/** Promises 8 and 9: fits and place. */
public final class LayTest {
    private static final int BAD = RealmTiles.BAD, FAR = RealmTiles.FAR;

    public static void main(String[] args) {
        firstTile();
        gates();
        roads();
        gaps();
        reach();
        ends();
        turnsOutOfRange();
        Check.end();
    }

    /** All places and turns, three numbers each, and none behind them. */
    private static void fit(String what, RealmTiles x, int... want) {
        for (int n = 0; n < want.length; n++) {
            Check.due(what + ": fits(" + n / 3 + ", " + n % 3 + ")", x.fits(n / 3, n % 3), want[n]);
        }
        for (int k = -1; k < 4; k++) {
            Check.due(what + ": fits beyond", x.fits(want.length / 3, k), FAR);
            Check.due(what + ": fits far beyond", x.fits(Integer.MAX_VALUE, k), FAR);
            Check.due(what + ": fits(-1)", x.fits(-1, k), FAR);
        }
        Check.due(what + ": fits(0, 3)", x.fits(0, 3), FAR);
        Check.due(what + ": fits(0, -1)", x.fits(0, -1), FAR);
    }

    private static void refused(RealmTiles x, int px, int py, int turn) {
        Check.due("place(" + px + ", " + py + ", " + turn + ")", x.place(px, py, turn), BAD);
    }

    private static void firstTile() {
        RealmTiles x = Tile.gameOf(2, Tile.GATE, Tile.GATE);
        fit("first", x, 0, 0, 0, 0, 0, 1, 0, 0, 2, 0, 0, 3);
        refused(x, 1, 0, 0);
        refused(x, 0, -1, 0);
        refused(x, 0, 0, 4);
        refused(x, 0, 0, -1);
        refused(x, 0, 0, Integer.MAX_VALUE);
        refused(x, Integer.MIN_VALUE, Integer.MAX_VALUE, 0);
        Check.due("refused ones lay nothing", x.game(1), 0);
        Check.due("place", x.place(0, 0, 3), 0);
        fit("between laying and following", x);
        refused(x, 1, 0, 0);
        x.follow(-1);
        Tile.turn(x, 0, 1, 2, -1, 0);
        fit("over", x);
    }

    /** A city in the north, turned by one lies in the east, and so on. */
    private static void gates() {
        RealmTiles x = Tile.gameOf(2, Tile.GATE, Tile.GATE);
        x.place(0, 0, 0);
        x.follow(-1);
        fit("by the gate", x, 0, -1, 2,
            -1, 0, 0, -1, 0, 2, -1, 0, 3, 1, 0, 0, 1, 0, 1, 1, 0, 2,
            0, 1, 1, 0, 1, 2, 0, 1, 3);
        refused(x, 0, 0, 2);
        refused(x, 1, 1, 0);
        refused(x, 2, 0, 0);
        refused(x, 0, -1, 0);
        x.undo();
        x.undo();
        x.place(0, 0, 1);
        x.follow(-1);
        fit("by the turned gate", x, 0, -1, 0, 0, -1, 1, 0, -1, 3,
            -1, 0, 0, -1, 0, 2, -1, 0, 3, 1, 0, 3,
            0, 1, 1, 0, 1, 2, 0, 1, 3);
        Check.due("place", x.place(1, 0, 3), 1);
    }

    private static void roads() {
        RealmTiles x = Tile.gameOf(2, Tile.ROAD, Tile.BEND, Tile.END);
        x.place(0, 0, 1);
        x.follow(-1);
        // The bend has paths in the north and east; by turns: east and south, south and west, west and north.
        fit("by the road", x, 0, -1, 0, 0, -1, 3, -1, 0, 0, -1, 0, 1, 1, 0, 2, 1, 0, 3, 0, 1, 1, 0, 1, 2);
        x.place(1, 0, 3);
        x.follow(-1);
        // The road at (0, 0) ends in the west at (-1, 0), and by the bend in the north of (1, 0).
        fit("the end", x, 0, -1, 0, 0, -1, 1, 0, -1, 3, 1, -1, 2, -1, 0, 1, 2, 0, 0, 2, 0, 1, 2, 0, 2,
            0, 1, 1, 0, 1, 2, 0, 1, 3, 1, 1, 1, 1, 1, 2, 1, 1, 3);
    }

    /** A place between several tiles asks for all its sides. */
    private static void gaps() {
        RealmTiles x = Tile.gameOf(2, Tile.MEADOW, Tile.GATE, Tile.MEADOW, Tile.GATE);
        Tile.turn(x, 0, 0, 0, -1, 0);
        Tile.turn(x, 1, 0, 2, -1, 0);
        Tile.turn(x, 0, 1, 0, -1, 0);
        refused(x, 1, 1, 1);
        refused(x, 1, 1, 2);
        refused(x, 1, 1, 3);
        Check.due("place in the gap", x.place(1, 1, 0), 3);
    }

    /** All four ends of the table, in one row of tiles and one column. */
    private static void ends() {
        int[] steps = {0, -1, 1, 0, 0, 1, -1, 0};
        for (int way = 0; way < 8; way += 2) {
            int dx = steps[way];
            int dy = steps[way + 1];
            Tile[] tiles = new Tile[12];
            Arrays.fill(tiles, Tile.MEADOW);
            RealmTiles x = Tile.gameOf(2, tiles);
            for (int n = 0; n < 10; n++) {
                Tile.turn(x, n * dx, n * dy, 0, -1, 0);
            }
            refused(x, 10 * dx, 10 * dy, 0);
            Check.due("at the end", x.region(9 * dx, 9 * dy, 0), 0);
            Check.due("beyond the end", x.region(10 * dx, 10 * dy, 0), RealmTiles.NONE);
            // The end of the table does not shut a slot.
            Check.due("open slots", x.about(0, 3), 2 * 10 * 3 + 6);
            int last = 4 * (2 * 10 + 1) - 1;
            Check.due("the last fit", x.fits(last, 2), 3);
            Check.due("behind the last fit", x.fits(last + 1, 2), FAR);
        }
    }

    /** A turn out of its range does not lay the tile at the place before or behind. */
    private static void turnsOutOfRange() {
        RealmTiles x = Tile.gameOf(2, Tile.MEADOW, Tile.MEADOW);
        Tile.turn(x, 0, 0, 0, -1, 0);
        for (int px = -3; px <= 3; px++) {
            for (int turn = 4; turn < 9; turn++) {
                refused(x, px, 0, turn);
                refused(x, px, 0, 3 - turn);
            }
        }
    }

    private static void reach() {
        Tile[] tiles = new Tile[24];
        Arrays.fill(tiles, Tile.MEADOW);
        RealmTiles x = Tile.gameOf(2, tiles);
        for (int n = 0; n < 10; n++) {
            Tile.turn(x, 0, -n, 0, -1, 0);
        }
        refused(x, 0, -10, 0);
        for (int n = 1; n < 10; n++) {
            Tile.turn(x, n, -9, 0, -1, 0);
        }
        refused(x, 10, -9, 0);
        refused(x, -9, -8, 0);
        Check.due("first fit: x", x.fits(0, 0), -1);
        Check.due("first fit: y", x.fits(0, 1), -9);
        Check.due("second place: y", x.fits(4, 1), -8);
        Check.due("second place: x", x.fits(4, 0), -1);
        Tile.turn(x, 9, -8, 3, -1, 0);
        refused(x, 10, -8, 0);
        // 1 place in row -9; -1, 1 .. 8 in row -8; -1, 1 and 9 in row -7; -1 and 1 in rows -6 .. 0; 0 in row 1.
        int fits = 4 * (1 + 9 + 3 + 2 * 7 + 1);
        Check.due("last fit: y", x.fits(fits - 1, 1), 1);
        Check.due("behind the last", x.fits(fits, 1), FAR);
    }
}
