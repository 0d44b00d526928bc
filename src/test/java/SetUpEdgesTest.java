/** The boundary cases of promises 1 to 5, sentence by sentence: a new object, type, draw, start and clear. */
public final class SetUpEdgesTest {
    private static final int NONE = RealmTiles.NONE, BAD = RealmTiles.BAD, FULL = RealmTiles.FULL;
    private static final int LEAST = Integer.MIN_VALUE, GREATEST = Integer.MAX_VALUE;
    private static final long FIELD = RealmTiles.FIELD, CLOISTER = RealmTiles.CLOISTER, SHIELD = 8;

    public static void main(String[] args) {
        newObject();
        typeNumbers();
        bitsOfSlots();
        bitsOfKinds();
        bitsOfTouches();
        higherBits();
        slotsOfNoPart();
        sides();
        partsWithoutSlots();
        cloisters();
        shields();
        touches();
        twelveTypes();
        typesInAGame();
        lengths();
        drawsOfNoType();
        twentyFour();
        drawsInAGame();
        startsAnew();
        playersOutOfRange();
        emptyList();
        clears();
        Check.end();
    }

    private static int type(long slots, long kinds, long touches) {
        return new RealmTiles().type(slots, kinds, touches);
    }

    private static RealmTiles listOf(int length) {
        RealmTiles x = new RealmTiles();
        Tile.GATE.giveTo(x);
        for (int n = 0; n < length; n++) {
            x.draw(0);
        }
        return x;
    }

    private static void newObject() {
        Check.sentence("Promise 1: No types, an empty list, no game.");
        RealmTiles used = Tile.gameOf(3, Tile.GATE, Tile.GATE);
        used.place(0, 0, 0);
        RealmTiles x = new RealmTiles();
        Check.due("draw of type 0", x.draw(0), BAD);
        Check.due("length of the list", x.game(5), 0);
        Check.due("start", x.start(2), false);
        Check.due("whose turn", x.game(0), NONE);
        Check.due("tiles", x.game(1), 0);
        Check.due("player", x.player(0, 1), NONE);
        Check.due("first type", Tile.GATE.giveTo(x), 0);
        Check.due("first tile", x.draw(0), 1);
    }

    private static void typeNumbers() {
        Check.sentence("Promise 2: Gives a type; its number.");
        RealmTiles x = new RealmTiles();
        Check.due("the first", Tile.GATE.giveTo(x), 0);
        Check.due("one that is wrong has no number", x.type(0, 0, 0), BAD);
        Check.due("the second", Tile.ROAD.giveTo(x), 1);
        Check.due("the same once more", Tile.ROAD.giveTo(x), 2);
    }

    private static void bitsOfSlots() {
        Check.sentence("Promise 2: The four lowest bits of slots tell the part of slot 0, the next four that of slot 1, "
            + "and so on");
        // A side of part 1, a city; the rest is part 0, a field: the city is open to the side's neighbour alone.
        int[] dx = {0, 1, 0, -1};
        int[] dy = {-1, 0, 1, 0};
        for (int side = 0; side < 4; side++) {
            RealmTiles x = new RealmTiles();
            Check.due("type", x.type(0x111L << 12 * side, 0x103, 0), 0);
            Tile.CORE.giveTo(x);
            x.draw(0);
            x.draw(1);
            x.start(2);
            Tile.turn(x, 0, 0, 0, -1, 0);
            Check.due("x of the city's neighbour", x.fits(0, 0), dx[side]);
            Check.due("y of the city's neighbour", x.fits(0, 1), dy[side]);
            Check.due("it fits at no other place", x.fits(4, 0), RealmTiles.FAR);
        }
    }

    private static void bitsOfKinds() {
        Check.sentence("Promise 2: byte k of kinds (the lowest is byte 0) tells part k: 0 when there is none, otherwise "
            + "its kind, and 8 more for a shield");
        for (int part = 0; part < 8; part++) {
            for (int code : new int[] {1, 3, 9}) {
                RealmTiles x = new RealmTiles();
                Check.due("all slots are of part " + part, x.type(0x111111111111L * part, (long) code << 8 * part, 0), 0);
                x.draw(0);
                x.start(2);
                x.place(0, 0, 0);
                for (int other = 0; other < 8; other++) {
                    Check.due("region of part " + other, x.region(0, 0, other), other == part ? part : NONE);
                }
                Check.due("kind of part " + part, x.about(part, 0), code & 7);
                Check.due("shields of part " + part, x.about(part, 2), code >> 3);
            }
        }
    }

    private static void bitsOfTouches() {
        Check.sentence("Promise 2: byte k of touches has bit c when part k touches part c");
        for (int field = 0; field < 8; field++) {
            int city = 7 - field;
            long slots = 0x111111111000L * field | 0x111L * city;
            long kinds = 3L << 8 * field | 1L << 8 * city;
            for (int touch = 0; touch < 2; touch++) {
                RealmTiles x = new RealmTiles();
                Check.due("field " + field + ", city " + city, x.type(slots, kinds, (long) touch << 8 * field + city), 0);
                x.draw(0);
                x.draw(0);
                x.start(2);
                Tile.turn(x, 0, 0, 0, field, 0);
                x.place(0, -1, 2);
                Check.due("points for the finished city", x.player(0, 2), 3 * touch);
            }
        }
    }

    private static void higherBits() {
        Check.sentence("Promise 2: BAD when that is not a type as said: higher bits are not 0");
        for (int bit = 48; bit < 64; bit++) {
            Check.due("bit " + bit + " of slots", type(1L << bit, FIELD, 0), BAD);
        }
        for (int part = 0; part < 8; part++) {
            for (int bit = 4; bit < 8; bit++) {
                Check.due("bit " + bit + " of byte " + part, type(0, FIELD | 1L << 8 * part + bit, 0), BAD);
            }
            for (long kind = 5; kind < 8; kind++) {
                Check.due("kind " + kind + " of part " + part, type(0, part == 0 ? kind : FIELD | kind << 8 * part, 0), BAD);
                Check.due("and a shield", type(0, part == 0 ? kind | SHIELD : FIELD | (kind | SHIELD) << 8 * part, 0), BAD);
            }
        }
        for (int part = 0; part < 8; part++) {
            for (int bit = 4; bit < 8; bit++) {
                long slots = 0x111111111111L * part;
                Check.due("bit " + bit + " of a city", type(slots, (1 | 1L << bit) << 8 * part, 0), BAD);
                Check.due("bit " + bit + " of a shield", type(slots, (9 | 1L << bit) << 8 * part, 0), BAD);
            }
        }
        Check.due("the highest bit that may be set", type(0x777777777777L, FIELD << 56, 0), 0);
        Check.due("all bits", type(-1, -1, -1), BAD);
    }

    private static void slotsOfNoPart() {
        Check.sentence("Promise 2: a slot belongs to no part of the kinds city, path or field");
        for (int side = 0; side < 4; side++) {
            for (long part = 1; part < 16; part++) {
                long slots = 0x111L * part << 12 * side;
                Check.due("side " + side + " of part " + part + ", which is none", type(slots, FIELD, 0), BAD);
                if (part < 8) {
                    long kinds = FIELD | CLOISTER << 8 * part;
                    Check.due("side " + side + " of part " + part + ", a cloister", type(slots, kinds, 0), BAD);
                }
            }
        }
        Check.due("all slots of a cloister", type(0, CLOISTER, 0), BAD);
        Check.due("no parts at all", type(0, 0, 0), BAD);
    }

    /** All that three slots can be, at each side; the other sides have a slot of each part. */
    private static void sides() {
        Check.sentence("Promise 2: a side has other slots");
        String parts = "01234";
        for (int first = 0; first < 125; first++) {
            int a = first / 25;
            int b = first / 5 % 5;
            int c = first % 5;
            boolean whole = a == b && b == c && b != 2;
            boolean path = a > 2 && b == 2 && c > 2;
            String side = "" + parts.charAt(a) + parts.charAt(b) + parts.charAt(c);
            String[] slots = {side + "000111324", "000" + side + "111324", "000111" + side + "324", "000111324" + side};
            for (String all : slots) {
                int due = whole || path ? 0 : BAD;
                Check.due("slots " + all + " of CCPFF", Tile.of(all, "CCPFF").giveTo(new RealmTiles()), due);
            }
        }
    }

    private static void partsWithoutSlots() {
        Check.sentence("Promise 2: such a part has no slot");
        for (long kind : new long[] {1, 9, 2, 3}) {
            for (int part = 1; part < 8; part++) {
                Check.due("kind " + kind + " at part " + part, type(0, FIELD | kind << 8 * part, 0), BAD);
            }
            Check.due("kind " + kind + " at part 0", type(0x777777777777L, kind | FIELD << 56, 0), BAD);
        }
        // One slot is enough: of a path at each side, and of a field (2) beside it.
        for (int side = 0; side < 4; side++) {
            Check.due("a path at side " + side, type(0x10L << 12 * side, 0x203, 0), 0);
            Check.due("a field before it", type(0x12L << 12 * side, 0x30203, 0), 0);
            Check.due("a field behind it", type(0x210L << 12 * side, 0x30203, 0), 0);
        }
    }

    private static void cloisters() {
        Check.sentence("Promise 2: there are two cloisters");
        for (int part = 1; part < 8; part++) {
            long kinds = FIELD | CLOISTER << 8 * part;
            Check.due("one at part " + part, type(0, kinds, 0), 0);
            for (int other = 1; other < 8; other++) {
                if (other != part) {
                    Check.due("two, at " + part + " and " + other, type(0, kinds | CLOISTER << 8 * other, 0), BAD);
                }
            }
        }
        Check.due("one at part 0", type(0x111111111111L, CLOISTER | FIELD << 8, 0), 0);
        Check.due("three", type(0, 0x4040403, 0), BAD);
    }

    private static void shields() {
        Check.sentence("Promise 2: a part without a city has a shield");
        Check.due("a city with one", type(0, 9, 0), 0);
        Check.due("a field with one", type(0, 11, 0), BAD);
        Check.due("a path with one", type(0x10, FIELD | (2 | SHIELD) << 8, 0), BAD);
        for (int part = 1; part < 8; part++) {
            Check.due("a cloister with one", type(0, FIELD | (CLOISTER | SHIELD) << 8 * part, 0), BAD);
            Check.due("no part, but one", type(0, FIELD | SHIELD << 8 * part, 0), BAD);
        }
    }

    /** Each part, and each number that is no part's, touches each; in eight ways to number the parts. */
    private static void touches() {
        for (int shift = 0; shift < 8; shift++) {
            for (int part = 0; part < 8; part++) {
                for (int other = 0; other < 8; other++) {
                    touch(part, other, shift);
                }
            }
        }
    }

    private static void touch(int part, int other, int shift) {
        String kinds = "CFPMFS..";
        boolean field = kinds.charAt(part) == 'F';
        boolean city = kinds.charAt(other) == 'C' || kinds.charAt(other) == 'S';
        Check.sentence("Promise 2: " + (field ? "something that is no city is touched"
            : "one that is no field touches something"));
        Tile tile = shifted("000124555111", kinds, shift);
        long touch = 1L << 8 * ((part + shift) % 8) + (other + shift) % 8;
        // That the field 4 touches the city 0 is right.
        long right = 1L << 8 * ((4 + shift) % 8) + shift;
        String what = "part " + part + " touches part " + other + ", numbered on by " + shift;
        Check.due(what, type(tile.slots, tile.kinds, touch), field && city ? 0 : BAD);
        Check.due(what + ", with another touch", type(tile.slots, tile.kinds, touch | right), field && city ? 0 : BAD);
    }

    /** The same tile with other numbers of its parts. */
    private static Tile shifted(String slots, String kinds, int shift) {
        StringBuilder parts = new StringBuilder();
        for (int slot = 0; slot < 12; slot++) {
            parts.append((char) ('0' + (slots.charAt(slot) - '0' + shift) % 8));
        }
        return Tile.of(parts.toString(), kinds.substring(8 - shift) + kinds.substring(0, 8 - shift));
    }

    private static void twelveTypes() {
        Check.sentence("Promise 2: FULL when there are 12");
        RealmTiles x = new RealmTiles();
        for (int n = 0; n < 12; n++) {
            Check.due("type " + n, Tile.GATE.giveTo(x), n);
        }
        Check.due("one more", Tile.GATE.giveTo(x), FULL);
        Check.due("another one more", Tile.ROAD.giveTo(x), FULL);
        Check.due("one more that is wrong", x.type(0, 0, 0), BAD);
        Check.due("the last type is there", x.draw(11), 1);
        Check.due("the one refused is not", x.draw(12), BAD);
    }

    private static void typesInAGame() {
        Check.sentence("Promise 2: FULL when [..] a game is on");
        RealmTiles x = listOf(1);
        Check.due("before the game", Tile.ROAD.giveTo(x), 1);
        x.start(2);
        Check.due("begun", Tile.ROAD.giveTo(x), FULL);
        Check.due("begun, and it is wrong", x.type(0, 0, 0), BAD);
        x.place(0, 0, 0);
        Check.due("laid", Tile.ROAD.giveTo(x), FULL);
        x.follow(-1);
        Check.due("over", Tile.ROAD.giveTo(x), FULL);
        x.clear();
        Check.due("cleared", Tile.ROAD.giveTo(x), 0);
    }

    private static void lengths() {
        Check.sentence("Promise 3: Puts a tile of a type behind the list: how many it has then.");
        RealmTiles x = new RealmTiles();
        Tile.MEADOW.giveTo(x);
        Tile.ABBEY.giveTo(x);
        int[] types = {1, 0, 0, 1, 1};
        for (int n = 0; n < types.length; n++) {
            Check.due("draw", x.draw(types[n]), n + 1);
        }
        x.start(2);
        for (int n = 0; n < types.length; n++) {
            Check.due("tile " + n, x.drawn(), types[n]);
            Tile.turn(x, n, 0, 0, -1, 0);
        }
    }

    private static void drawsOfNoType() {
        Check.sentence("Promise 3: BAD: there is no such type");
        RealmTiles x = new RealmTiles();
        Check.due("no types at all", x.draw(0), BAD);
        for (int types = 1; types <= 12; types++) {
            Tile.GATE.giveTo(x);
            Check.due("the last of " + types, x.draw(types - 1), types);
            for (int type : new int[] {types, -1, 12, 16, LEAST, GREATEST}) {
                Check.due("draw(" + type + ") of " + types, x.draw(type), BAD);
            }
            Check.due("the list is no longer for that", x.game(5), types);
        }
    }

    private static void twentyFour() {
        Check.sentence("Promise 3: FULL: there are 24");
        RealmTiles x = listOf(23);
        Check.due("the last", x.draw(0), 24);
        Check.due("one more", x.draw(0), FULL);
        Check.due("one more of no type", x.draw(1), BAD);
        Check.due("the length", x.game(5), 24);
    }

    private static void drawsInAGame() {
        Check.sentence("Promise 3: FULL: [..] a game is on");
        RealmTiles x = listOf(1);
        x.start(3);
        Check.due("begun", x.draw(0), FULL);
        Check.due("not drawn", x.game(5), 0);
        x.place(0, 0, 0);
        Check.due("laid", x.draw(0), FULL);
        x.follow(-1);
        Check.due("over", x.draw(0), FULL);
        Check.due("still over", x.game(0), NONE);
        Check.due("of no type", x.draw(1), BAD);
    }

    private static void startsAnew() {
        Check.sentence("Promise 4: A new game begins, whatever was before. Answers true");
        for (int players = 2; players <= 3; players++) {
            Snapshot begun = Snapshot.of(gameAfter(0, players));
            for (int steps = 0; steps <= 6; steps++) {
                RealmTiles x = gameAfter(steps, 5 - players);
                Check.due("start after " + steps + " steps", x.start(players), true);
                begun.holdsFor("start after " + steps + " steps", x);
            }
        }
    }

    /** The third tile is put aside; the game is over after six steps. */
    private static RealmTiles gameAfter(int steps, int players) {
        RealmTiles x = Tile.gameOf(players, Tile.GATE, Tile.SHIELD_GATE, Tile.CROWN, Tile.GATE);
        int[] place = {0, 0, 0, 0, -1, 2, 1, 0, 0};
        int[] part = {0, 1, 0};
        int[] points = {0, 6, 0};
        for (int n = 0; n < steps; n++) {
            int tile = n / 2;
            if (n % 2 == 0) {
                Check.due("place", x.place(place[3 * tile], place[3 * tile + 1], place[3 * tile + 2]), tile);
            } else {
                Check.due("follow", x.follow(part[tile]), points[tile]);
            }
        }
        Check.due("steps", x.game(3), steps);
        return x;
    }

    private static void playersOutOfRange() {
        Check.sentence("Promise 4: false, refused, when players is not 2 or 3");
        int[] wrong = {1, 4, 0, -1, -2, -3, 5, 258, 259, LEAST, GREATEST};
        RealmTiles x = listOf(1);
        Snapshot before = Snapshot.of(x);
        for (int players : wrong) {
            Check.due("without a game: start(" + players + ")", x.start(players), false);
        }
        before.holds();
        Check.due("start(2)", x.start(2), true);
        Check.due("start(3)", x.start(3), true);
        for (int steps = 0; steps <= 6; steps++) {
            x = gameAfter(steps, 2);
            before = Snapshot.of(x);
            for (int players : wrong) {
                Check.due("after " + steps + " steps: start(" + players + ")", x.start(players), false);
            }
            before.holds();
        }
    }

    private static void emptyList() {
        Check.sentence("Promise 4: false, refused, when [..] the list is empty");
        RealmTiles x = new RealmTiles();
        Check.due("new object", x.start(2), false);
        Tile.GATE.giveTo(x);
        Check.due("types alone", x.start(3), false);
        Check.due("no game is on", Tile.GATE.giveTo(x), 1);
        x.draw(0);
        Check.due("one tile", x.start(3), true);
        x.clear();
        Check.due("cleared", x.start(3), false);
        Check.due("no game", x.player(0, 0), NONE);
    }

    private static void clears() {
        Check.sentence("Promise 5: There is no game any more, no list and no types.");
        Snapshot empty = Snapshot.of(new RealmTiles());
        for (int steps = -2; steps <= 6; steps++) {
            RealmTiles x = steps == -2 ? new RealmTiles() : steps == -1 ? listOf(24) : gameAfter(steps, 2);
            x.clear();
            empty.holdsFor("cleared after " + steps + " steps", x);
            Check.due("no types", x.draw(0), BAD);
            Check.due("no list", x.start(2), false);
            for (int n = 0; n < 12; n++) {
                Check.due("type", Tile.DEAF_GATE.giveTo(x), n);
            }
            for (int n = 0; n < 24; n++) {
                Check.due("list", x.draw(11), n + 1);
            }
        }
        clearsTypes();
    }

    /** New types of old numbers have nothing of the old ones: of a shield, a touch, a cloister or slots. */
    private static void clearsTypes() {
        Tile full = Tile.of("000145222111", "SFCMPF", 1, 0, 1, 2);
        String[] plain = {"000111111111", "CF", "111000000000", "FC", "222777777777", "..C....F"};
        for (int n = 0; n < 6; n += 2) {
            Tile tile = Tile.of(plain[n], plain[n + 1]);
            int field = plain[n + 1].indexOf('F');
            RealmTiles x = Tile.gameOf(2, full, full);
            x.clear();
            Check.due("type 0", tile.giveTo(x), 0);
            x.draw(0);
            x.draw(0);
            Check.due("start", x.start(2), true);
            RealmTiles fresh = Tile.gameOf(2, tile, tile);
            for (RealmTiles y : new RealmTiles[] {x, fresh}) {
                Tile.turn(y, 0, 0, 0, field, 0);
                y.place(y.fits(0, 0), y.fits(0, 1), y.fits(0, 2));
            }
            Snapshot.of(fresh).holdsFor("a game after clear()", x);
        }
    }
}
