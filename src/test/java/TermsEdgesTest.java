import java.util.Arrays;

/** The boundary cases that the document names under 'Terms', sentence by sentence: tiles, places and regions. */
public final class TermsEdgesTest {
    private static final int NONE = RealmTiles.NONE, BAD = RealmTiles.BAD, FAR = RealmTiles.FAR;
    private static final int[] DX = {0, 1, 0, -1}, DY = {-1, 0, 1, 0};
    private static final Tile CROSSING = Tile.of("041152263370", "FFFFPPPP");

    public static void main(String[] args) {
        twelveTypesInOneGame();
        eightParts();
        corners();
        turnsOfWholeSides();
        turnsOfSlots();
        neighbours();
        tileNumbers();
        taken();
        firstPlace();
        sameKinds();
        greatestId();
        leastId();
        tilesOnce();
        allTilesInOneRegion();
        openSlots();
        finishedCityAndPath();
        fieldIsNeverFinished();
        finishedCloister();
        cloisterAtTheEnd();
        Check.end();
    }

    private static void twelveTypesInOneGame() {
        Check.sentence("Terms: TYPES of tiles are numbered 0, 1, .. as they are given, at most 12.");
        RealmTiles x = new RealmTiles();
        for (int n = 0; n < 12; n++) {
            // Type n has its field at part n % 8, and from 8 on a cloister behind it.
            int field = n % 8;
            long kinds = 3L << 8 * field | (n < 8 ? 0 : 4L << 8 * field + 8);
            Check.due("type " + n, x.type(0x111111111111L * field, kinds, 0), n);
        }
        for (int n = 11; n >= 0; n--) {
            x.draw(n);
        }
        x.start(2);
        for (int tile = 0; tile < 12; tile++) {
            int type = 11 - tile;
            Check.due("drawn", x.drawn(), type);
            Tile.turn(x, tile % 6, tile / 6, 0, -1, 0);
            Check.due("field of type " + type, x.region(tile % 6, tile / 6, type % 8), 3);
            int cloister = x.region(tile % 6, tile / 6, type % 8 + 1);
            Check.due("cloister of type " + type, cloister, type < 8 ? NONE : 8 * tile + type % 8 + 1);
        }
    }

    private static void eightParts() {
        Check.sentence("Terms: Its PARTS are some of 0 .. 7");
        RealmTiles x = Tile.gameOfAll(2, CROSSING, 1);
        x.place(0, 0, 0);
        for (int part = 0; part < 8; part++) {
            Check.due("part " + part, x.region(0, 0, part), part);
            Check.due("kind of part " + part, x.about(part, 0), part < 4 ? RealmTiles.FIELD : RealmTiles.PATH);
        }
        Check.due("no part 8", x.region(0, 0, 8), NONE);
        Check.due("no part -1", x.region(0, 0, -1), NONE);
        Check.due("a follower on the last part", x.follow(7), 0);
        Check.due("it is there", x.about(7, 5), 1);
    }

    /** From the middle along the row to its end, and from there to the corner; nothing fits beyond. */
    private static void corners() {
        Check.sentence("Terms: TILES are laid at places (x, y), x (to the east) and y (to the south) from -9 to 9");
        for (int corner = 0; corner < 4; corner++) {
            int sx = corner % 2 * 2 - 1;
            int sy = corner / 2 * 2 - 1;
            RealmTiles x = Tile.gameOfAll(2, Tile.MEADOW, 24);
            for (int n = 0; n < 10; n++) {
                Tile.turn(x, n * sx, 0, 0, -1, 0);
            }
            Check.due("beyond the row", x.place(10 * sx, 0, 0), BAD);
            for (int n = 1; n < 10; n++) {
                Tile.turn(x, 9 * sx, n * sy, 0, -1, 0);
                Check.due("beside the column", x.place(10 * sx, n * sy, 0), BAD);
            }
            Check.due("beyond the column", x.place(9 * sx, 10 * sy, 0), BAD);
            Check.due("the corner", x.region(9 * sx, 9 * sy, 0), 0);
            // A meadow fits at a place in all four turns.
            for (int i = 0; x.fits(i, 0) != FAR; i += 4) {
                Check.due("x of a fit", Math.abs(x.fits(i, 0)) <= 9, true);
                Check.due("y of a fit", Math.abs(x.fits(i, 1)) <= 9, true);
            }
        }
    }

    /** Four cities, one at each side: in each turn, a gate at each side lies beside another one of them. */
    private static void turnsOfWholeSides() {
        Check.sentence("Terms: in a TURN 0 .. 3: what would be slot s is slot (s + 3 * turn) % 12 then");
        Tile cities = Tile.of("000111222333", "CCCC");
        for (int turn = 0; turn < 4; turn++) {
            for (int side = 0; side < 4; side++) {
                RealmTiles x = Tile.gameOf(2, cities, Tile.GATE);
                Tile.turn(x, 0, 0, turn, -1, 0);
                Tile.turn(x, DX[side], DY[side], (side + 2) % 4, -1, 0);
                int part = (side + 4 - turn) % 4;
                Check.due("turn " + turn + ", side " + side, x.region(DX[side], DY[side], 0), part);
            }
        }
        RealmTiles x = Tile.gameOf(2, cities);
        Check.due("turn -1", x.place(0, 0, -1), BAD);
        Check.due("turn 4", x.place(0, 0, 4), BAD);
    }

    /** A crossing of eight parts, and a road at each side of it: each of the road's slots lies beside the due one. */
    private static void turnsOfSlots() {
        int[] partAt = {0, 4, 1, 1, 5, 2, 2, 6, 3, 3, 7, 0};
        for (int turn = 0; turn < 4; turn++) {
            for (int side = 0; side < 4; side++) {
                RealmTiles x = Tile.gameOf(2, CROSSING, Tile.ROAD);
                Tile.turn(x, 0, 0, turn, -1, 0);
                // In this turn the road's south, of slots 6, 7 and 8, is the side beside the crossing.
                Tile.turn(x, DX[side], DY[side], side, -1, 0);
                int first = (3 * side + 12 - 3 * turn) % 12;
                Check.due("path", x.region(DX[side], DY[side], 0), partAt[first + 1]);
                Check.due("field of slot 8", x.region(DX[side], DY[side], 1), partAt[first]);
                Check.due("field of slot 6", x.region(DX[side], DY[side], 2), partAt[first + 2]);
            }
        }
    }

    private static void neighbours() {
        Check.sentence("Terms: Two places are NEIGHBOURS when they have a side in common.");
        for (int dx = -2; dx <= 2; dx++) {
            for (int dy = -2; dy <= 2; dy++) {
                RealmTiles x = Tile.gameOfAll(2, Tile.MEADOW, 2);
                Tile.turn(x, 0, 0, 0, -1, 0);
                boolean side = Math.abs(dx) + Math.abs(dy) == 1;
                Check.due("place(" + dx + ", " + dy + ", 0)", x.place(dx, dy, 0), side ? 1 : BAD);
                Check.due("one region", x.region(dx, dy, 0), side || dx == 0 && dy == 0 ? 0 : NONE);
            }
        }
    }

    private static void tileNumbers() {
        Check.sentence("Terms: The tiles on the table are numbered 0, 1, .. as they were laid.");
        RealmTiles x = Tile.gameOfAll(3, Tile.ABBEY, 24);
        for (int n = 0; n < 24; n++) {
            int px = n % 8;
            Check.due("place", x.place(px, n / 8, 0), n);
            Check.due("its cloister", x.region(px, n / 8, 1), 8 * n + 1);
            x.undo();
            Check.due("place once more", x.place(px, n / 8, 3), n);
            x.follow(-1);
        }
        Check.due("there is no more", x.place(8, 0, 0), BAD);
        Check.due("tiles", x.game(1), 24);
    }

    private static void taken() {
        Check.sentence("Terms: A tile FITS at a place in a turn when no tile is there");
        RealmTiles x = Tile.gameOfAll(2, Tile.CORE, 3);
        Tile.turn(x, 0, 0, 0, -1, 0);
        Tile.turn(x, 1, 0, 0, -1, 0);
        for (int turn = 0; turn < 4; turn++) {
            Check.due("the first tile's place", x.place(0, 0, turn), BAD);
            Check.due("the second tile's place", x.place(1, 0, turn), BAD);
        }
        x.undo();
        x.undo();
        Check.due("the place is free again", x.place(1, 0, 0), 1);
    }

    private static void firstPlace() {
        Check.sentence("Terms: there is a neighbour with a tile (or, if there are none on the table, it is (0, 0))");
        RealmTiles x = Tile.gameOfAll(2, Tile.MEADOW, 2);
        for (int px = -9; px <= 9; px++) {
            for (int py = -9; py <= 9; py++) {
                if (px != 0 || py != 0) {
                    Check.due("first at " + px + ", " + py, x.place(px, py, 0), BAD);
                }
            }
        }
        Check.due("first at 0, 0", x.place(0, 0, 0), 0);
        Check.due("undo", x.undo(), true);
        Check.due("the table is empty again", x.place(1, 0, 0), BAD);
        Tile.turn(x, 0, 0, 3, -1, 0);
        Check.due("no neighbour", x.place(9, 9, 0), BAD);
    }

    /** A city, a path and a field against each side of a tile with all of them; and at two sides of one place. */
    private static void sameKinds() {
        Check.sentence("Terms: at each side that it has in common with a tile the slots that lie side by side have parts "
            + "of the same kinds");
        Tile[] tiles = {Tile.CORE, CROSSING, Tile.MEADOW};
        int[] kinds = {0, 1, 2, 0};
        for (int kind = 0; kind < 3; kind++) {
            for (int turn = 0; turn < 4; turn++) {
                for (int side = 0; side < 4; side++) {
                    RealmTiles x = Tile.gameOf(2, Tile.of("000124333555", "CFPFFS"), tiles[kind]);
                    Tile.turn(x, 0, 0, turn, -1, 0);
                    boolean same = kinds[(side + 4 - turn) % 4] == kind;
                    Check.due("tile " + kind + " at side " + side, x.place(DX[side], DY[side], 0), same ? 1 : BAD);
                }
            }
        }
        RealmTiles x = Tile.gameOf(2, Tile.MEADOW, Tile.GATE, Tile.MEADOW, Tile.MEADOW);
        Tile.turn(x, 0, 0, 0, -1, 0);
        Tile.turn(x, 1, 0, 2, -1, 0);
        Tile.turn(x, 0, 1, 0, -1, 0);
        Check.due("a field in the west, but a city in the north", x.place(1, 1, 0), BAD);
    }

    private static void greatestId() {
        Check.sentence("Terms: its ID is 8 times the tile's number plus the part");
        RealmTiles x = Tile.gameOfAll(2, Tile.of("000000000000", "F......M"), 24);
        for (int n = 0; n < 24; n++) {
            Tile.turn(x, n % 8, n / 8, 0, n >= 22 ? 7 : -1, 0);
            Check.due("the cloister's region", x.region(n % 8, n / 8, 7), 8 * n + 7);
        }
        Check.due("kind", x.about(191, 0), RealmTiles.CLOISTER);
        Check.due("tiles", x.about(191, 1), 1);
        Check.due("follower of player 1", x.about(191, 6), 1);
        Check.due("none of player 0", x.about(191, 5), 0);
        Check.due("no such ID", x.about(192, 0), NONE);
        Check.due("no such ID", x.about(199, 0), NONE);
    }

    /** Two cities of the first tile, 1 and 3, are joined by a ring that begins at 3; and the same the other way round. */
    private static void leastId() {
        Check.sentence("Terms: its NUMBER is the least ID");
        Tile[] tiles = new Tile[8];
        Arrays.fill(tiles, Tile.CORE);
        tiles[0] = Tile.of("000111222333", "FCFC");
        int[] ring = {-1, 0, -1, 1, -1, 2, 0, 2, 1, 2, 1, 1};
        for (int way = 1; way >= -1; way -= 2) {
            RealmTiles x = Tile.gameOf(2, tiles);
            Tile.turn(x, 0, 0, 1 - way, -1, 0);
            for (int n = 0; n < 6; n++) {
                Tile.turn(x, way * ring[2 * n], ring[2 * n + 1], 0, -1, 0);
                Check.due("the ring's number", x.region(way * ring[2 * n], ring[2 * n + 1], 0), 3);
                Check.due("the core's own ID", x.about(8 * n + 8, 0), NONE);
            }
            x.place(way, 0, 0);
            Check.due("the last of the ring", x.region(way, 0, 0), 1);
            Check.due("the first of the ring", x.region(-way, 0, 0), 1);
            Check.due("the second city", x.region(0, 0, 3), 1);
            Check.due("its old number", x.about(3, 0), NONE);
            x.undo();
            Check.due("the second city, taken back", x.region(0, 0, 3), 3);
            Check.due("the first city, taken back", x.region(0, 0, 1), 1);
        }
    }

    private static void tilesOnce() {
        Check.sentence("Terms: It has TILES (each counted once)");
        Tile hook = Tile.of("000000111111", "CF");
        RealmTiles x = Tile.gameOf(2, Tile.of("000111222222", "SSF"), hook, hook, hook);
        Tile.turn(x, 0, 0, 0, -1, 0);
        Tile.turn(x, 0, -1, 1, -1, 0);
        Tile.turn(x, 1, -1, 2, -1, 0);
        Check.due("one city of the first", x.about(0, 1), 3);
        Check.due("the other one", x.about(1, 1), 1);
        x.place(1, 0, 3);
        Check.due("both in one region", x.about(0, 1), 4);
        Check.due("its number is the lesser one", x.region(0, 0, 1), 0);
        Check.due("the other number", x.about(1, 1), NONE);
        Check.due("shields of both", x.about(0, 2), 2);
    }

    private static void allTilesInOneRegion() {
        Check.sentence("Terms: THE LIST has the types of at most 24 tiles.");
        RealmTiles x = Tile.gameOfAll(2, Tile.CROWN, 24);
        for (int n = 0; n < 24; n++) {
            Tile.turn(x, n % 6, n / 6, 0, -1, 0);
        }
        Check.due("tiles", x.about(0, 1), 24);
        Check.due("shields", x.about(0, 2), 24);
        Check.due("open slots", x.about(0, 3), 3 * 20);
        Check.due("finished", x.about(0, 4), 0);
        Check.due("over", x.game(0), NONE);
        Check.due("a new list", x.draw(0), RealmTiles.FULL);
    }

    private static void openSlots() {
        Check.sentence("Terms: OPEN slots (beside which no tile lies)");
        RealmTiles x = Tile.gameOfAll(2, Tile.CORE, 11);
        Tile.turn(x, 0, 0, 0, -1, 0);
        Check.due("all twelve", x.about(0, 3), 12);
        for (int n = 1; n < 10; n++) {
            Tile.turn(x, -n, 0, 0, -1, 0);
            Check.due("a row of " + (n + 1), x.about(0, 3), 6 * n + 12);
        }
        Check.due("the end of the table leaves slots open", x.about(0, 3), 2 * 3 * 10 + 2 * 3);
        x = Tile.gameOf(2, Tile.ABBEY);
        x.place(0, 0, 0);
        Check.due("a cloister has none", x.about(1, 3), 0);
        Check.due("its field has all", x.about(0, 3), 12);
    }

    private static void finishedCityAndPath() {
        Check.sentence("Terms: It is FINISHED when it is a city or path without open slots");
        Tile[] gates = {Tile.CORE, Tile.GATE, Tile.GATE, Tile.GATE, Tile.GATE};
        Tile[] ends = {Tile.of("010010010010", "FP"), Tile.END, Tile.END, Tile.END, Tile.END};
        for (int kind = RealmTiles.CITY; kind <= RealmTiles.PATH; kind++) {
            RealmTiles x = Tile.gameOf(2, kind == RealmTiles.CITY ? gates : ends);
            Tile.turn(x, 0, 0, 0, -1, 0);
            int region = kind - 1;
            for (int side = 0; side < 4; side++) {
                Check.due("kind", x.about(region, 0), kind);
                Check.due("not finished with " + side, x.about(region, 4), 0);
                Check.due("open slots", x.about(region, 3), (4 - side) * (kind == RealmTiles.CITY ? 3 : 1));
                x.place(DX[side], DY[side], (side + 2) % 4);
                Check.due("finished with four alone", x.about(region, 4), side == 3 ? 1 : 0);
                x.follow(-1);
            }
            Check.due("tiles", x.about(region, 1), 5);
        }
    }

    private static void fieldIsNeverFinished() {
        Check.sentence("Terms: FINISHED [..] a city or path without open slots");
        Tile walled = Tile.of("000111111111", "FC", 0, 1);
        RealmTiles x = Tile.gameOf(2, walled, walled);
        Tile.turn(x, 0, 0, 0, 0, 0);
        Tile.turn(x, 0, -1, 2, -1, 0);
        Check.due("a field", x.about(0, 0), RealmTiles.FIELD);
        Check.due("of two tiles", x.about(0, 1), 2);
        Check.due("without open slots", x.about(0, 3), 0);
        Check.due("is not finished", x.about(0, 4), 0);
        Check.due("its follower stays", x.about(0, 5), 1);
    }

    /** The tiles around it in all orders of the corners and sides; the eighth one finishes it, seven do not. */
    private static void finishedCloister() {
        Check.sentence("Terms: or a cloister with tiles at all eight places around it");
        int[] ring = {0, -1, 1, -1, 1, 0, 1, 1, 0, 1, -1, 1, -1, 0, -1, -1};
        for (int first = 0; first < 8; first += 2) {
            RealmTiles x = Tile.gameOfAll(2, Tile.ABBEY, 9);
            Tile.turn(x, 0, 0, 0, -1, 0);
            for (int n = 0; n < 8; n++) {
                int at = (first + n) % 8;
                Check.due("with " + n, x.about(1, 4), 0);
                x.place(ring[2 * at], ring[2 * at + 1], 0);
                Check.due("with " + (n + 1), x.about(1, 4), n == 7 ? 1 : 0);
                x.follow(-1);
            }
            x.undo();
            x.undo();
            Check.due("when one is taken back", x.about(1, 4), 0);
        }
    }

    /** Beyond the end of the table no tile lies: five at most are around a place there, and three in the corner. */
    private static void cloisterAtTheEnd() {
        RealmTiles x = Tile.gameOfAll(2, Tile.ABBEY, 24);
        for (int n = 0; n < 9; n++) {
            Tile.turn(x, n, 0, 0, -1, 0);
        }
        Tile.turn(x, 9, 0, 0, 1, 0);
        Tile.turn(x, 9, 1, 0, -1, 0);
        Tile.turn(x, 9, -1, 0, -1, 0);
        Tile.turn(x, 8, 1, 0, -1, 0);
        Tile.turn(x, 8, -1, 0, -1, 0);
        Check.due("five around it", x.player(1, 2), 6);
        Check.due("not finished", x.about(8 * 9 + 1, 4), 0);
        Check.due("its follower stays", x.about(8 * 9 + 1, 6), 1);
        Check.due("no tile beyond", x.place(10, 0, 0), BAD);
    }
}
