import java.util.Arrays;

/** A type of tiles in readable form: the part of each slot, and the kind of each part. */
final class Tile {
    static final Tile MEADOW = of("000000000000", "F");
    static final Tile ABBEY = of("000000000000", "FM");
    static final Tile CORE = of("000000000000", "C");
    static final Tile CROWN = of("000000000000", "S");
    /** A city in the north, touched by the field around it. */
    static final Tile GATE = of("000111111111", "CF", 1, 0);
    static final Tile SHIELD_GATE = of("000111111111", "SF", 1, 0);
    /** The same, but the field does not touch the city. */
    static final Tile DEAF_GATE = of("000111111111", "CF");
    /** Two cities, in the north and in the south, and a field between them. */
    static final Tile TWINS = of("000222111222", "CCF", 2, 0, 2, 1);
    static final Tile SHIELD_TWINS = of("000222111222", "SSF", 2, 0, 2, 1);
    /** A city through the tile from north to south, with a field in the east (1) and one in the west (2). */
    static final Tile STREET = of("000111000222", "CFF", 1, 0, 2, 0);
    /** A path from north to south, with a field in the west (1) and one in the east (2). */
    static final Tile ROAD = of("102222201111", "PFF");
    /** A path that begins in the north. */
    static final Tile END = of("010000000000", "FP");
    /** A path from the north to the east: field 1 outside, field 2 inside. */
    static final Tile BEND = of("102201111111", "PFF");
    /** A city in the north and a path in the south that ends within. */
    static final Tile MIXED = of("000111121111", "CFP", 1, 0);

    final long slots;
    final long kinds;
    final long touches;

    private Tile(long slots, long kinds, long touches) {
        this.slots = slots;
        this.kinds = kinds;
        this.touches = touches;
    }

    /** Kinds: C city, S city with a shield, P path, F field, M cloister, a dot for none; touches in pairs: field, city. */
    static Tile of(String parts, String kindLetters, int... touchPairs) {
        long slots = 0;
        for (int s = 0; s < 12; s++) {
            slots |= (long) (parts.charAt(s) - '0') << 4 * s;
        }
        long kinds = 0;
        for (int k = 0; k < kindLetters.length(); k++) {
            kinds |= kindCode(kindLetters.charAt(k)) << 8 * k;
        }
        long touches = 0;
        for (int n = 0; n < touchPairs.length; n += 2) {
            touches |= 1L << 8 * touchPairs[n] + touchPairs[n + 1];
        }
        return new Tile(slots, kinds, touches);
    }

    private static long kindCode(char letter) {
        switch (letter) {
            case 'C': return 1;
            case 'S': return 9;
            case 'P': return 2;
            case 'F': return 3;
            case 'M': return 4;
            default: return 0;
        }
    }

    int giveTo(RealmTiles x) {
        return x.type(slots, kinds, touches);
    }

    /** A new object with a game of these tiles. */
    static RealmTiles gameOf(int players, Tile... tiles) {
        RealmTiles x = new RealmTiles();
        Tile[] given = new Tile[12];
        int types = 0;
        for (Tile tile : tiles) {
            int type = 0;
            while (type < types && given[type] != tile) {
                type++;
            }
            if (type == types) {
                given[types++] = tile;
                Check.due("type", tile.giveTo(x), type);
            }
            x.draw(type);
        }
        Check.due("start", x.start(players), true);
        return x;
    }

    /** A new object with a game of tiles of one type. */
    static RealmTiles gameOfAll(int players, Tile tile, int count) {
        Tile[] tiles = new Tile[count];
        Arrays.fill(tiles, tile);
        return gameOf(players, tiles);
    }

    /** One turn of which every step must be right. */
    static void turn(RealmTiles x, int px, int py, int turn, int part, int points) {
        int tile = x.game(1);
        Check.due("place(" + px + ", " + py + ", " + turn + ")", x.place(px, py, turn), tile);
        Check.due("follow(" + part + ") on tile " + tile, x.follow(part), points);
    }
}
