/** Promise 2. */
public final class TypeTest {
    public static void main(String[] args) {
        rightTypes();
        wrongSlots();
        wrongSides();
        wrongKinds();
        wrongTouches();
        full();
        Check.end();
    }

    private static void right(String what, Tile tile) {
        Check.due(what, tile.giveTo(new RealmTiles()), 0);
    }

    private static void wrong(String what, Tile tile) {
        Check.due(what, tile.giveTo(new RealmTiles()), RealmTiles.BAD);
    }

    private static void wrong(String what, long slots, long kinds, long touches) {
        Check.due(what, new RealmTiles().type(slots, kinds, touches), RealmTiles.BAD);
    }

    private static void rightTypes() {
        right("meadow", Tile.MEADOW);
        right("abbey", Tile.ABBEY);
        right("core", Tile.CORE);
        right("crown", Tile.CROWN);
        right("twins", Tile.SHIELD_TWINS);
        right("road between two fields", Tile.ROAD);
        right("road's end in one field", Tile.END);
        right("parts with gaps", Tile.of("333777777777", "..MC...F", 7, 3));
        right("crossing of eight parts", Tile.of("041152263370", "FFFFPPPP"));
        right("one path with four ends", Tile.of("041142243340", "FFFFP"));
        right("field that touches two cities", Tile.TWINS);
        right("two fields that touch one city", Tile.STREET);
        right("four cities", Tile.of("000111222333", "CSCS"));
        right("four fields", Tile.of("000111222333", "FFFF"));
    }

    private static void wrongSlots() {
        wrong("nothing", 0, 0, 0);
        wrong("bit 48 of slots", 1L << 48, 3, 0);
        wrong("bit 63 of slots", 1L << 63, 3, 0);
        wrong("slots of -1", -1, 3, 0);
        wrong("slot of no part", Tile.of("000111000000", "F"));
        wrong("last slot of no part", Tile.of("000000000001", "F"));
        wrong("slot of a cloister", Tile.of("000000000111", "FM"));
        wrong("all slots of a cloister", Tile.of("000000000000", "M"));
        for (long part = 8; part < 16; part++) {
            wrong("slots of part " + part, part << 36 | part << 40 | part << 44, 3, 0);
        }
        wrong("city without slots", Tile.of("000000000000", "FC"));
        wrong("path without slots", Tile.of("000000000000", "FP"));
        wrong("field without slots", Tile.of("000000000000", "CF"));
        wrong("part 0 without slots", Tile.of("111111111111", "CF"));
        wrong("part 7 without slots", Tile.of("000000000000", "F......S"));
    }

    private static void wrongSides() {
        wrong("side of a path alone", Tile.of("111000000000", "FP"));
        wrong("path at the begin of a side", Tile.of("100000000000", "FP"));
        wrong("path at the end of a side", Tile.of("001000000000", "FP"));
        wrong("two slots of a path", Tile.of("110000000000", "FP"));
        wrong("path between cities", Tile.of("010000000000", "CP"));
        wrong("path between a city and a field", Tile.of("012000000000", "CPF"));
        wrong("path between a field and a city", Tile.of("012222222222", "FPC"));
        wrong("two cities at a side", Tile.of("001111111111", "CC"));
        wrong("a city between cities", Tile.of("010000000000", "CC"));
        wrong("two fields at a side", Tile.of("001111111111", "FF"));
        wrong("a field between fields", Tile.of("010000000000", "FF"));
        wrong("city and field at a side", Tile.of("011111111111", "CF"));
        wrong("wrong at the last side alone", Tile.of("000000000011", "FF"));
        wrong("wrong at the east alone", Tile.of("000001111111", "FF"));
    }

    private static void wrongKinds() {
        wrong("kind 5", 0, 5, 0);
        wrong("kind 6 without slots", 0, 3 | 6 << 8, 0);
        wrong("kind 7 without slots", 0, 3 | 7 << 8, 0);
        wrong("bit 4 of a kind", 0, 3 | 16, 0);
        wrong("bit 7 of a kind", 0, 1 | 128, 0);
        wrong("bit 63 of kinds", 0, 3 | 1L << 63, 0);
        wrong("a byte of 16", 0, 3 | 16L << 8, 0);
        wrong("two cloisters", Tile.of("000000000000", "FMM"));
        wrong("cloisters at the ends", Tile.of("111111111111", "MF.....M"));
        wrong("shield of a field", 0, 11, 0);
        wrong("shield of a path", Tile.of("010000000000", "F").slots, 3 | 10 << 8, 0);
        wrong("shield of a cloister", 0, 3 | 12 << 8, 0);
        wrong("shield of no part", 0, 3 | 8 << 8, 0);
    }

    private static void wrongTouches() {
        wrong("city touches itself", Tile.of("000000000000", "C", 0, 0));
        wrong("city touches city", Tile.of("000111111111", "CC", 0, 1));
        wrong("path touches city", Tile.of("000111121111", "CFP", 2, 0));
        wrong("cloister touches city", Tile.of("000111111111", "CFM", 2, 0));
        wrong("no part touches city", Tile.of("000111111111", "CF", 5, 0));
        wrong("part 7, which is none, touches city", Tile.of("000111111111", "CF", 7, 0));
        wrong("field touches itself", Tile.of("000111111111", "CF", 1, 1));
        wrong("field touches path", Tile.of("010000000000", "FP", 0, 1));
        wrong("field touches cloister", Tile.of("000000000000", "FM", 0, 1));
        wrong("field touches no part", Tile.of("000111111111", "CF", 1, 7));
        wrong("field touches city and itself", Tile.of("000111111111", "CF", 1, 0, 1, 1));
    }

    private static void full() {
        RealmTiles x = new RealmTiles();
        for (int n = 0; n < 12; n++) {
            Check.due("type " + n, Tile.MEADOW.giveTo(x), n);
            Check.due("no type", x.type(0, 0, 0), RealmTiles.BAD);
        }
        Check.due("type 12", Tile.GATE.giveTo(x), RealmTiles.FULL);
        Check.due("a wrong one for type 12", x.type(0, 0, 0), RealmTiles.BAD);
        Check.due("draw of the last", x.draw(11), 1);
        Check.due("draw beyond", x.draw(12), RealmTiles.BAD);
        x.clear();
        Check.due("after clear", Tile.GATE.giveTo(x), 0);
        x.draw(0);
        x.start(2);
        Check.due("in a game", Tile.GATE.giveTo(x), RealmTiles.FULL);
        Check.due("a wrong one in a game", x.type(0, 11, 0), RealmTiles.BAD);
        Tile.turn(x, 0, 0, 0, -1, 0);
        Check.due("after the game is over", Tile.GATE.giveTo(x), RealmTiles.FULL);
        x.clear();
        Check.due("a type that leaves nothing of the old one", Tile.of("777777777777", ".......C").giveTo(x), 0);
        x.draw(0);
        x.start(2);
        x.place(0, 0, 0);
        Check.due("old part 0", x.region(0, 0, 0), RealmTiles.NONE);
        Check.due("old part 1", x.region(0, 0, 1), RealmTiles.NONE);
        Check.due("new part 7", x.about(7, 3), 12);
    }
}
