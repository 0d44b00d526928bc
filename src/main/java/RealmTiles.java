import java.util.Arrays;

/**
 * Referees a game in which square tiles are laid side by side so that cities, paths and fields grow,
 * takes moves back, and finds the best move when few tiles are left.
 *
 * All rows are made once, in the constructors; no call makes an object.
 */
public final class RealmTiles {
    public static final int NONE = -1, BAD = -2, FULL = -3, SPENT = -4, FAR = -100;
    public static final int CITY = 1, PATH = 2, FIELD = 3, CLOISTER = 4;

    private static final int MAX_TYPES = 12, MAX_TILES = 24;
    private static final int MIN_PLAYERS = 2, MAX_PLAYERS = 3, FOLLOWERS = 7;
    private static final int SLOTS = 12, SIDES = 4, SIDE_SLOTS = 3, TURNS = 4, PARTS = 8;
    private static final int PIECES = MAX_TILES * PARTS;
    private static final int MAX_BUDGET = 1500, VALUE_ZERO = 1000;

    // The grid has a rim of cells beyond the reach, so that each place has all eight cells around it.
    private static final int REACH = 9, MIDDLE = REACH + 1, WIDTH = 2 * MIDDLE + 1;
    private static final int CELLS = WIDTH * WIDTH, CENTRE = MIDDLE * WIDTH + MIDDLE;
    // Steps from a cell, for a WIDTH of 21: by sides north, east, south, west; and to all cells around it.
    private static final int[] SIDE_STEPS = {-21, 1, 21, -1};
    private static final int[] AROUND_STEPS = {-22, -21, -20, -1, 1, 20, 21, 22};

    private final Kit kit;
    private final Table table;
    private final Match match;
    private final Seeker seeker;

    public RealmTiles() {
        kit = new Kit();
        table = new Table(kit);
        match = new Match(kit, table);
        seeker = new Seeker(match, table);
    }

    public int type(long slots, long kinds, long touches) {
        if (!Kit.isType(slots, kinds, touches)) {
            return BAD;
        }
        if (match.on || kit.types >= MAX_TYPES) {
            return FULL;
        }
        return kit.addType(slots, kinds, touches);
    }

    public int draw(int type) {
        if (type < 0 || type >= kit.types) {
            return BAD;
        }
        if (match.on || kit.listed >= MAX_TILES) {
            return FULL;
        }
        return kit.addToList(type);
    }

    public boolean start(int players) {
        if (players < MIN_PLAYERS || players > MAX_PLAYERS || kit.listed == 0) {
            return false;
        }
        seeker.forget();
        match.begin(players);
        return true;
    }

    public void clear() {
        seeker.forget();
        match.end();
        kit.forget();
    }

    public int drawn() {
        return match.inHand;
    }

    public int game(int k) {
        switch (k) {
            case 0:
                return match.toMove();
            case 1:
                return table.tiles;
            case 2:
                return match.aside;
            case 3:
                return match.steps();
            case 4:
                return match.laid ? 1 : 0;
            case 5:
                return kit.listed - match.next;
            default:
                return BAD;
        }
    }

    public int fits(int i, int k) {
        if (i < 0 || i >= CELLS * TURNS || match.inHand == NONE) {
            return FAR;
        }
        return tellSpot(table.fitNumber(match.inHand, i), k);
    }

    public int place(int x, int y, int turn) {
        if (!isPlace(x, y) || turn < 0 || turn >= TURNS || match.inHand == NONE) {
            return BAD;
        }
        int spot = cellAt(x, y) * TURNS + turn;
        if (table.nextFit(match.inHand, spot) != spot) {
            return BAD;
        }
        seeker.forget();
        match.lay(spot);
        return table.tiles - 1;
    }

    public int follow(int part) {
        if (!match.mayPut(part)) {
            return BAD;
        }
        seeker.forget();
        return match.put(part);
    }

    public boolean undo() {
        if (match.steps() == 0) {
            return false;
        }
        seeker.forget();
        match.stepBack();
        return true;
    }

    public int region(int x, int y, int part) {
        if (!isPlace(x, y) || part < 0 || part >= PARTS) {
            return NONE;
        }
        int tile = table.at[cellAt(x, y)];
        if (tile == NONE || table.kindOf(tile * PARTS + part) == 0) {
            return NONE;
        }
        return table.regions.rootOf(tile * PARTS + part);
    }

    public int about(int region, int k) {
        if (!table.isRegion(region)) {
            return NONE;
        }
        switch (k) {
            case 0:
                return table.kindOf(region);
            case 1:
                return Integer.bitCount(table.regions.tileBits[region]);
            case 2:
                return table.regions.shields[region];
            case 3:
                return table.regions.open[region];
            case 4:
                return table.isFinished(region) ? 1 : 0;
            case 5:
            case 6:
            case 7:
                return menOf(table.regions.men[region], k - 5);
            default:
                return NONE;
        }
    }

    public int player(int p, int k) {
        if (!match.on || p < 0 || p >= match.players) {
            return NONE;
        }
        switch (k) {
            case 0:
                return match.points[p];
            case 1:
                return match.left[p];
            case 2:
                match.reckonFinals();
                return match.finals[p];
            default:
                return NONE;
        }
    }

    public int search(int budget) {
        if (match.inHand == NONE || kit.listed - match.next > 1) {
            return NONE;
        }
        if (budget < 1 || budget > MAX_BUDGET) {
            return BAD;
        }
        return seeker.seek(budget) ? VALUE_ZERO + seeker.value : SPENT;
    }

    public int best(int k) {
        if (k == 3) {
            return seeker.spot == NONE ? FAR : seeker.part;
        }
        return tellSpot(seeker.spot, k);
    }

    private static boolean isPlace(int x, int y) {
        return x >= -REACH && x <= REACH && y >= -REACH && y <= REACH;
    }

    private static int cellAt(int x, int y) {
        return (y + MIDDLE) * WIDTH + x + MIDDLE;
    }

    /** A spot is a cell with a turn; spots ascend by y, then x, then turns. */
    private static int tellSpot(int spot, int k) {
        if (spot == NONE) {
            return FAR;
        }
        switch (k) {
            case 0:
                return spot / TURNS % WIDTH - MIDDLE;
            case 1:
                return spot / TURNS / WIDTH - MIDDLE;
            case 2:
                return spot % TURNS;
            default:
                return FAR;
        }
    }

    // The followers of all players in a region are held in one int, four bits for each player,
    // so that regions are joined and parted by one sum.

    private static int menOf(int men, int p) {
        return men >>> 4 * p & 15;
    }

    private static int oneMan(int p) {
        return 1 << 4 * p;
    }

    private static int mostMen(int men) {
        return Math.max(menOf(men, 0), Math.max(menOf(men, 1), menOf(men, 2)));
    }

    /** The types of tiles, and the list of those that will be drawn. */
    private static final class Kit {
        private static final int SHIELD = 8, KIND_BITS = 7, CODE_BITS = 15, SLOT_BITS = 48;

        // Rows of types: one entry for each slot, part or side of each type.
        private final int[] partAt = new int[MAX_TYPES * SLOTS];
        private final int[] sideKind = new int[MAX_TYPES * SIDES];
        private final int[] kind = new int[MAX_TYPES * PARTS];
        private final int[] shields = new int[MAX_TYPES * PARTS];
        private final int[] touched = new int[MAX_TYPES * PARTS];
        private final int[] slotCount = new int[MAX_TYPES * PARTS];
        private final int[] cloister = new int[MAX_TYPES];
        private final int[] list = new int[MAX_TILES];
        private int types;
        private int listed;

        static boolean isType(long slots, long kinds, long touches) {
            return kindsAreRight(kinds) && slotsAreRight(slots, kinds)
                && sidesAreRight(slots, kinds) && touchesAreRight(kinds, touches);
        }

        private static boolean kindsAreRight(long kinds) {
            int cloisters = 0;
            for (int part = 0; part < PARTS; part++) {
                int code = byteIn(kinds, part);
                int partKind = code & KIND_BITS;
                if (code > CODE_BITS || partKind > CLOISTER || code >= SHIELD && partKind != CITY) {
                    return false;
                }
                if (partKind == CLOISTER) {
                    cloisters++;
                }
            }
            return cloisters <= 1;
        }

        private static boolean slotsAreRight(long slots, long kinds) {
            if (slots >>> SLOT_BITS != 0) {
                return false;
            }
            int used = 0;
            for (int slot = 0; slot < SLOTS; slot++) {
                int part = partIn(slots, slot);
                if (part >= PARTS || !hasSlots(kindIn(kinds, part))) {
                    return false;
                }
                used |= 1 << part;
            }
            for (int part = 0; part < PARTS; part++) {
                if (hasSlots(kindIn(kinds, part)) && (used >> part & 1) == 0) {
                    return false;
                }
            }
            return true;
        }

        private static boolean sidesAreRight(long slots, long kinds) {
            for (int slot = 0; slot < SLOTS; slot += SIDE_SLOTS) {
                int first = partIn(slots, slot);
                int middle = partIn(slots, slot + 1);
                int last = partIn(slots, slot + 2);
                boolean right = kindIn(kinds, middle) == PATH
                    ? kindIn(kinds, first) == FIELD && kindIn(kinds, last) == FIELD
                    : first == middle && last == middle;
                if (!right) {
                    return false;
                }
            }
            return true;
        }

        private static boolean touchesAreRight(long kinds, long touches) {
            for (int part = 0; part < PARTS; part++) {
                int cities = byteIn(touches, part);
                if (cities != 0 && kindIn(kinds, part) != FIELD) {
                    return false;
                }
                for (int other = 0; other < PARTS; other++) {
                    if ((cities >> other & 1) != 0 && kindIn(kinds, other) != CITY) {
                        return false;
                    }
                }
            }
            return true;
        }

        private static boolean hasSlots(int partKind) {
            return partKind == CITY || partKind == PATH || partKind == FIELD;
        }

        private static int partIn(long slots, int slot) {
            return (int) (slots >>> 4 * slot) & 15;
        }

        private static int byteIn(long bytes, int part) {
            return (int) (bytes >>> 8 * part) & 255;
        }

        private static int kindIn(long kinds, int part) {
            return byteIn(kinds, part) & KIND_BITS;
        }

        /** Takes what isType() has found right, when there is room. */
        int addType(long slots, long kinds, long touches) {
            int row = types * PARTS;
            cloister[types] = NONE;
            for (int part = 0; part < PARTS; part++) {
                kind[row + part] = kindIn(kinds, part);
                shields[row + part] = byteIn(kinds, part) >= SHIELD ? 1 : 0;
                touched[row + part] = byteIn(touches, part);
                slotCount[row + part] = 0;
                if (kind[row + part] == CLOISTER) {
                    cloister[types] = part;
                }
            }
            for (int slot = 0; slot < SLOTS; slot++) {
                int part = partIn(slots, slot);
                partAt[types * SLOTS + slot] = part;
                slotCount[row + part]++;
            }
            for (int side = 0; side < SIDES; side++) {
                // The middle slot tells all of a side: only a path has slots of another kind beside it, and those are fields.
                sideKind[types * SIDES + side] = kindIn(kinds, partIn(slots, side * SIDE_SLOTS + 1));
            }
            types++;
            return types - 1;
        }

        int addToList(int newType) {
            list[listed] = newType;
            listed++;
            return listed;
        }

        void forget() {
            types = 0;
            listed = 0;
        }
    }

    /**
     * Which pieces hang together, and what each region has. The entries of a region stand at its least ID.
     * Joining and changes of followers are noted, so that they can be taken back, the last ones first.
     */
    private static final class Regions {
        // A lesser piece of the same region; the least one has itself.
        private final int[] up = new int[PIECES];
        private final int[] tileBits = new int[PIECES];
        private final int[] shields = new int[PIECES];
        private final int[] open = new int[PIECES];
        private final int[] men = new int[PIECES];

        private final int[] joined = new int[PIECES];
        private final int[] tileBitsBefore = new int[PIECES];
        private int joins;

        // Each follower is put once and goes back once, with others or alone.
        private final int[] changed = new int[2 * MAX_TILES];
        private final int[] menBefore = new int[2 * MAX_TILES];
        private int changes;

        void found(int piece, int shieldCount, int slotCount) {
            up[piece] = piece;
            tileBits[piece] = 1 << piece / PARTS;
            shields[piece] = shieldCount;
            open[piece] = slotCount;
            men[piece] = 0;
        }

        int rootOf(int piece) {
            int root = piece;
            for (int n = 0; n < PIECES && up[root] != root; n++) {
                root = up[root];
            }
            return root;
        }

        void join(int root, int otherRoot) {
            if (root == otherRoot) {
                return;
            }
            int low = Math.min(root, otherRoot);
            int high = Math.max(root, otherRoot);
            joined[joins] = high;
            tileBitsBefore[joins] = tileBits[low];
            joins++;
            up[high] = low;
            tileBits[low] |= tileBits[high];
            shields[low] += shields[high];
            open[low] += open[high];
            men[low] += men[high];
        }

        void partTo(int joinsBefore) {
            for (int n = joins - 1; n >= joinsBefore; n--) {
                int high = joined[n];
                int low = up[high];
                up[high] = high;
                tileBits[low] = tileBitsBefore[n];
                shields[low] -= shields[high];
                open[low] -= open[high];
                men[low] -= men[high];
                joins = n;
            }
        }

        void setMen(int root, int newMen) {
            changed[changes] = root;
            menBefore[changes] = men[root];
            changes++;
            men[root] = newMen;
        }

        void takeMenBackTo(int changesBefore) {
            for (int n = changes - 1; n >= changesBefore; n--) {
                men[changed[n]] = menBefore[n];
                changes = n;
            }
        }
    }

    /** The tiles that are laid, with their regions. */
    private static final class Table {
        private final Kit kit;
        private final Regions regions;
        private final int[] at = new int[CELLS];
        // How many neighbours with a tile a cell has: a tile may only be laid where this is above 0.
        private final int[] near = new int[CELLS];
        private final int[] around = new int[CELLS];
        private final int[] cellOf = new int[MAX_TILES];
        private final int[] typeOf = new int[MAX_TILES];
        private final int[] turnOf = new int[MAX_TILES];
        private final int[] joinsBefore = new int[MAX_TILES];
        private int tiles;

        // A city is counted already when it bears the number of the count that goes on.
        private final int[] countedIn = new int[PIECES];
        private int count;

        Table(Kit kit) {
            this.kit = kit;
            regions = new Regions();
            Arrays.fill(at, NONE);
            // One more for the centre lets the first tile be laid there; the rim stays below 0 for ever.
            near[CENTRE] = 1;
            for (int n = 0; n < WIDTH; n++) {
                near[n] = -SIDES;
                near[CELLS - 1 - n] = -SIDES;
                near[n * WIDTH] = -SIDES;
                near[n * WIDTH + WIDTH - 1] = -SIDES;
            }
        }

        /** The first spot not before a given one at which a tile of a type fits, or NONE. */
        int nextFit(int tileType, int from) {
            int spot = from;
            while (spot < CELLS * TURNS) {
                int cell = spot / TURNS;
                if (near[cell] <= 0 || at[cell] != NONE) {
                    spot = (cell + 1) * TURNS;
                } else if (sidesMatch(tileType, cell, spot % TURNS)) {
                    return spot;
                } else {
                    spot++;
                }
            }
            return NONE;
        }

        private boolean sidesMatch(int tileType, int cell, int turn) {
            for (int side = 0; side < SIDES; side++) {
                int tile = at[cell + SIDE_STEPS[side]];
                if (tile == NONE) {
                    continue;
                }
                int own = (side + SIDES - turn) % SIDES;
                int other = (side + SIDES / 2 + SIDES - turnOf[tile]) % SIDES;
                if (kit.sideKind[tileType * SIDES + own] != kit.sideKind[typeOf[tile] * SIDES + other]) {
                    return false;
                }
            }
            return true;
        }

        int fitNumber(int tileType, int i) {
            int spot = NONE;
            for (int n = 0; n <= i; n++) {
                spot = nextFit(tileType, spot + 1);
                if (spot == NONE) {
                    return NONE;
                }
            }
            return spot;
        }

        void addTile(int tileType, int spot) {
            int tile = tiles;
            int cell = spot / TURNS;
            tiles++;
            at[cell] = tile;
            cellOf[tile] = cell;
            typeOf[tile] = tileType;
            turnOf[tile] = spot % TURNS;
            joinsBefore[tile] = regions.joins;
            for (int part = 0; part < PARTS; part++) {
                int entry = tileType * PARTS + part;
                regions.found(tile * PARTS + part, kit.shields[entry], kit.slotCount[entry]);
            }
            // All slots are shut before regions are joined: so lifting can part them first and then open the slots.
            for (int side = 0; side < SIDES; side++) {
                near[cell + SIDE_STEPS[side]]++;
                openSide(tile, side, -1);
            }
            for (int side = 0; side < SIDES; side++) {
                joinSide(tile, side);
            }
            for (int n = 0; n < AROUND_STEPS.length; n++) {
                around[cell + AROUND_STEPS[n]]++;
            }
        }

        void liftTile() {
            int tile = tiles - 1;
            int cell = cellOf[tile];
            regions.partTo(joinsBefore[tile]);
            for (int side = 0; side < SIDES; side++) {
                near[cell + SIDE_STEPS[side]]--;
                openSide(tile, side, 1);
            }
            for (int n = 0; n < AROUND_STEPS.length; n++) {
                around[cell + AROUND_STEPS[n]]--;
            }
            at[cell] = NONE;
            tiles = tile;
        }

        private void openSide(int tile, int side, int by) {
            int other = at[cellOf[tile] + SIDE_STEPS[side]];
            if (other == NONE) {
                return;
            }
            for (int n = 0; n < SIDE_SLOTS; n++) {
                int slot = side * SIDE_SLOTS + n;
                regions.open[pieceAt(tile, slot)] += by;
                regions.open[regions.rootOf(pieceAt(other, slotBeside(slot)))] += by;
            }
        }

        private void joinSide(int tile, int side) {
            int other = at[cellOf[tile] + SIDE_STEPS[side]];
            if (other == NONE) {
                return;
            }
            for (int n = 0; n < SIDE_SLOTS; n++) {
                int slot = side * SIDE_SLOTS + n;
                int piece = pieceAt(tile, slot);
                int beside = pieceAt(other, slotBeside(slot));
                regions.join(regions.rootOf(piece), regions.rootOf(beside));
            }
        }

        /** Slots go round a tile, so along a common side the two tiles number them in opposite order. */
        private static int slotBeside(int slot) {
            int side = (slot / SIDE_SLOTS + SIDES / 2) % SIDES;
            return side * SIDE_SLOTS + SIDE_SLOTS - 1 - slot % SIDE_SLOTS;
        }

        private int pieceAt(int tile, int slot) {
            int unturned = (slot + SLOTS - SIDE_SLOTS * turnOf[tile]) % SLOTS;
            return tile * PARTS + kit.partAt[typeOf[tile] * SLOTS + unturned];
        }

        int kindOf(int piece) {
            return kit.kind[typeOf[piece / PARTS] * PARTS + piece % PARTS];
        }

        boolean isRegion(int number) {
            return number >= 0 && number < tiles * PARTS && kindOf(number) != 0 && regions.up[number] == number;
        }

        boolean isFinished(int root) {
            switch (kindOf(root)) {
                case CITY:
                case PATH:
                    return regions.open[root] == 0;
                case CLOISTER:
                    return around[cellOf[root / PARTS]] == AROUND_STEPS.length;
                default:
                    return false;
            }
        }

        /** The cloister on the tile at a cell: a region of its own, as it has no slots; NONE when there is none. */
        int cloisterAt(int cell) {
            int tile = at[cell];
            if (tile == NONE || kit.cloister[typeOf[tile]] == NONE) {
                return NONE;
            }
            return tile * PARTS + kit.cloister[typeOf[tile]];
        }

        int finishedWorth(int root) {
            int tileCount = Integer.bitCount(regions.tileBits[root]);
            switch (kindOf(root)) {
                case CITY:
                    return 2 * (tileCount + regions.shields[root]);
                case PATH:
                    return tileCount;
                default:
                    return 1 + AROUND_STEPS.length;
            }
        }

        int finalWorth(int root) {
            int tileCount = Integer.bitCount(regions.tileBits[root]);
            switch (kindOf(root)) {
                case CITY:
                    return tileCount + regions.shields[root];
                case PATH:
                    return tileCount;
                case CLOISTER:
                    return 1 + around[cellOf[root / PARTS]];
                default:
                    return 3 * finishedCitiesAt(root);
            }
        }

        private int finishedCitiesAt(int field) {
            count++;
            int found = 0;
            for (int tile = 0; tile < tiles; tile++) {
                if ((regions.tileBits[field] >> tile & 1) == 0) {
                    continue;
                }
                for (int part = 0; part < PARTS; part++) {
                    int touched = kit.touched[typeOf[tile] * PARTS + part];
                    if (touched != 0 && regions.rootOf(tile * PARTS + part) == field) {
                        found += newFinishedCities(tile, touched);
                    }
                }
            }
            return found;
        }

        private int newFinishedCities(int tile, int touched) {
            int found = 0;
            for (int part = 0; part < PARTS; part++) {
                if ((touched >> part & 1) == 0) {
                    continue;
                }
                int city = regions.rootOf(tile * PARTS + part);
                if (regions.open[city] == 0 && countedIn[city] != count) {
                    countedIn[city] = count;
                    found++;
                }
            }
            return found;
        }
    }

    /** The game: whose turn it is, what the players have, and the steps, which can be taken back. */
    private static final class Match {
        private static final int SAVED = 4 + 2 * MAX_PLAYERS;

        private final Kit kit;
        private final Table table;
        private boolean on;
        private boolean laid;
        private int players;
        private int mover;
        private int inHand = NONE;
        private int next;
        private int aside;
        private final int[] points = new int[MAX_PLAYERS];
        private final int[] left = new int[MAX_PLAYERS];
        private final int[] finals = new int[MAX_PLAYERS];
        // What stood before the follower of each tile was put.
        private final int[] saved = new int[MAX_TILES * SAVED];

        Match(Kit kit, Table table) {
            this.kit = kit;
            this.table = table;
        }

        void begin(int playerCount) {
            end();
            on = true;
            players = playerCount;
            drawNext();
        }

        void end() {
            for (int n = steps(); n > 0; n--) {
                stepBack();
            }
            on = false;
            inHand = NONE;
            mover = 0;
            next = 0;
            aside = 0;
            Arrays.fill(points, 0);
            Arrays.fill(left, FOLLOWERS);
        }

        int toMove() {
            return inHand == NONE && !laid ? NONE : mover;
        }

        /** Each tile is two steps, but the last one's follower may still be to come. */
        int steps() {
            return laid ? 2 * table.tiles - 1 : 2 * table.tiles;
        }

        void lay(int spot) {
            table.addTile(inHand, spot);
            inHand = NONE;
            laid = true;
        }

        boolean mayPut(int part) {
            if (!laid || part < NONE || part >= PARTS) {
                return false;
            }
            if (part == NONE) {
                return true;
            }
            int piece = (table.tiles - 1) * PARTS + part;
            return left[mover] > 0 && table.kindOf(piece) != 0
                && table.regions.men[table.regions.rootOf(piece)] == 0;
        }

        /** Puts a follower where mayPut() allows it; the points that all get. */
        int put(int part) {
            save();
            if (part != NONE) {
                left[mover]--;
                table.regions.setMen(table.regions.rootOf((table.tiles - 1) * PARTS + part), oneMan(mover));
            }
            int got = settle();
            laid = false;
            mover = mover + 1 < players ? mover + 1 : 0;
            drawNext();
            return got;
        }

        private int settle() {
            int tile = table.tiles - 1;
            int got = 0;
            for (int part = 0; part < PARTS; part++) {
                got += pay(table.regions.rootOf(tile * PARTS + part));
            }
            for (int n = 0; n < AROUND_STEPS.length; n++) {
                int cloister = table.cloisterAt(table.cellOf[tile] + AROUND_STEPS[n]);
                if (cloister != NONE) {
                    got += pay(cloister);
                }
            }
            return got;
        }

        private int pay(int root) {
            int men = table.regions.men[root];
            if (men == 0 || !table.isFinished(root)) {
                return 0;
            }
            int worth = table.finishedWorth(root);
            int most = mostMen(men);
            int got = 0;
            for (int p = 0; p < players; p++) {
                left[p] += menOf(men, p);
                if (menOf(men, p) == most) {
                    points[p] += worth;
                    got += worth;
                }
            }
            table.regions.setMen(root, 0);
            return got;
        }

        private void drawNext() {
            for (int n = next; n < kit.listed && inHand == NONE; n++) {
                next = n + 1;
                if (table.nextFit(kit.list[n], 0) == NONE) {
                    aside++;
                } else {
                    inHand = kit.list[n];
                }
            }
        }

        void stepBack() {
            if (table.tiles == 0) {
                return;
            }
            if (laid) {
                inHand = table.typeOf[table.tiles - 1];
                table.liftTile();
                laid = false;
            } else {
                inHand = NONE;
                restore();
                laid = true;
            }
        }

        private void save() {
            int row = (table.tiles - 1) * SAVED;
            saved[row] = mover;
            saved[row + 1] = next;
            saved[row + 2] = aside;
            saved[row + 3] = table.regions.changes;
            for (int p = 0; p < MAX_PLAYERS; p++) {
                saved[row + 4 + p] = points[p];
                saved[row + 4 + MAX_PLAYERS + p] = left[p];
            }
        }

        private void restore() {
            int row = (table.tiles - 1) * SAVED;
            mover = saved[row];
            next = saved[row + 1];
            aside = saved[row + 2];
            table.regions.takeMenBackTo(saved[row + 3]);
            for (int p = 0; p < MAX_PLAYERS; p++) {
                points[p] = saved[row + 4 + p];
                left[p] = saved[row + 4 + MAX_PLAYERS + p];
            }
        }

        void reckonFinals() {
            for (int p = 0; p < players; p++) {
                finals[p] = points[p];
            }
            for (int piece = 0; piece < table.tiles * PARTS; piece++) {
                int men = table.regions.men[piece];
                if (men != 0 && table.regions.up[piece] == piece) {
                    addFinals(men, table.finalWorth(piece));
                }
            }
        }

        private void addFinals(int men, int worth) {
            int most = mostMen(men);
            for (int p = 0; p < players; p++) {
                if (menOf(men, p) == most) {
                    finals[p] += worth;
                }
            }
        }
    }

    /** Where one player's look through the lines stands, and the best line so far. */
    private static final class Level {
        private int mover;
        private int spot;
        private int part;
        private boolean laid;
        private boolean any;
        private int value;
        private int bestSpot;
        private int bestPart;
        private final int[] finals = new int[MAX_PLAYERS];

        void begin(int player) {
            mover = player;
            spot = NONE;
            laid = false;
            any = false;
        }

        /** What comes of the line at which the look stands. */
        void weigh(int[] comes, int players) {
            // Nobody's final points are below 0.
            int others = 0;
            for (int p = 0; p < players; p++) {
                if (p != mover) {
                    others = Math.max(others, comes[p]);
                }
            }
            int margin = comes[mover] - others;
            if (any && margin <= value) {
                return;
            }
            any = true;
            value = margin;
            bestSpot = spot;
            bestPart = part;
            System.arraycopy(comes, 0, finals, 0, MAX_PLAYERS);
        }
    }

    /** Goes through all lines by steps of the game itself, and takes every one of them back. */
    private static final class Seeker {
        // Each round makes a position or ends a level, and each position begins at most one level.
        private static final int MAX_ROUNDS = 2 * MAX_BUDGET + 4;

        private final Match match;
        private final Table table;
        // At most one tile is left behind the drawn one, so no line is longer than two turns.
        private final Level[] levels = {new Level(), new Level()};
        private int spot = NONE;
        private int part;
        private int value;

        Seeker(Match match, Table table) {
            this.match = match;
            this.table = table;
        }

        void forget() {
            spot = NONE;
        }

        /** False when there are more positions than the budget; then what was found before stays. */
        boolean seek(int budget) {
            int stepsBefore = match.steps();
            int positions = 0;
            int depth = 0;
            levels[0].begin(match.mover);
            for (int n = 0; n < MAX_ROUNDS && depth >= 0 && positions <= budget; n++) {
                if (makeNextLine(levels[depth])) {
                    positions++;
                    depth = lookBehindLine(depth);
                } else {
                    depth--;
                    endLine(depth);
                }
            }
            for (int n = match.steps(); n > stepsBefore; n--) {
                match.stepBack();
            }
            if (positions > budget) {
                return false;
            }
            spot = levels[0].bestSpot;
            part = levels[0].bestPart;
            value = levels[0].value;
            return true;
        }

        /** The depth at which the look goes on: that of the next player, or the same one when the game is over. */
        private int lookBehindLine(int depth) {
            if (match.inHand != NONE && depth + 1 < levels.length) {
                levels[depth + 1].begin(match.mover);
                return depth + 1;
            }
            match.reckonFinals();
            levels[depth].weigh(match.finals, match.players);
            match.stepBack();
            return depth;
        }

        /** When all lines of the next player were there, their best one tells what comes of the line before them. */
        private void endLine(int depth) {
            if (depth >= 0) {
                levels[depth].weigh(levels[depth + 1].finals, match.players);
                match.stepBack();
            }
        }

        /** With the last line's follower taken back: the next part, or else the next spot; false when all were there. */
        private boolean makeNextLine(Level level) {
            if (level.laid) {
                for (int p = level.part + 1; p < PARTS; p++) {
                    if (match.mayPut(p)) {
                        level.part = p;
                        match.put(p);
                        return true;
                    }
                }
                match.stepBack();
                level.laid = false;
            }
            level.spot = table.nextFit(match.inHand, level.spot + 1);
            if (level.spot == NONE) {
                return false;
            }
            match.lay(level.spot);
            match.put(NONE);
            level.laid = true;
            level.part = NONE;
            return true;
        }
    }
}
