import java.util.ArrayList;
import java.util.HashMap;
import java.util.List;
import java.util.Map;
import java.util.Set;
import java.util.TreeSet;

/**
 * The document's words put into a program as plainly as can be: every answer is reckoned anew from the tiles and
 * followers on the table, and steps are taken back by keeping all tables that were. Slow, but made another way than
 * RealmTiles, so that the two can be compared.
 */
final class PlainRealm {
    private static final int NONE = -1, BAD = -2, FULL = -3, SPENT = -4, FAR = -100;
    private static final int CITY = 1, PATH = 2, FIELD = 3, CLOISTER = 4;
    private static final int[] DX = {0, 1, 0, -1}, DY = {-1, 0, 1, 0};

    private record Kind(int[] part, int[] kind, boolean[] shield, int[] touch) {
    }

    private record Laid(Kind kind, int x, int y, int turn) {
        int partAt(int slot) {
            for (int s = 0; s < 12; s++) {
                if ((s + 3 * turn) % 12 == slot) {
                    return kind.part[s];
                }
            }
            throw new IllegalStateException();
        }
    }

    /** A table with all that belongs to it; never changed once it is in use. */
    private static final class State {
        List<Laid> tiles = new ArrayList<>();
        /** One more than the number of the tile at each place; columns are shared by copies. */
        int[][] grid = new int[19][19];
        Map<Integer, Integer> followers = new HashMap<>();
        int[] points = new int[3];
        /** What was reckoned already; it depends on the tiles alone. */
        Map<Integer, Set<Integer>> regions = new HashMap<>();
        int mover;
        int next;
        int aside;
        int inHand = NONE;
        boolean laid;

        State copy() {
            State s = new State();
            s.tiles.addAll(tiles);
            s.grid = grid.clone();
            s.followers.putAll(followers);
            s.points = points.clone();
            s.mover = mover;
            s.next = next;
            s.aside = aside;
            s.inHand = inHand;
            s.laid = laid;
            return s;
        }

        Laid at(int x, int y) {
            int number = numberAt(x, y);
            return number == NONE ? null : tiles.get(number);
        }

        int numberAt(int x, int y) {
            return x < -9 || x > 9 || y < -9 || y > 9 ? NONE : grid[x + 9][y + 9] - 1;
        }

        void add(Laid tile) {
            tiles.add(tile);
            grid[tile.x + 9] = grid[tile.x + 9].clone();
            grid[tile.x + 9][tile.y + 9] = tiles.size();
        }

        int left(int p) {
            int left = 7;
            for (int q : followers.values()) {
                if (q == p) {
                    left--;
                }
            }
            return left;
        }

        int kindOf(int piece) {
            return tiles.get(piece / 8).kind.kind[piece % 8];
        }

        /** The piece beside a slot of a tile, or NONE. */
        int beside(Laid tile, int slot) {
            Laid other = at(tile.x + DX[slot / 3], tile.y + DY[slot / 3]);
            if (other == null) {
                return NONE;
            }
            int[] mirror = {8, 7, 6, 11, 10, 9, 2, 1, 0, 5, 4, 3};
            return 8 * numberAt(other.x, other.y) + other.partAt(mirror[slot]);
        }

        Set<Integer> regionOf(int piece) {
            if (!regions.containsKey(piece)) {
                Set<Integer> region = gather(piece);
                for (int other : region) {
                    regions.put(other, region);
                }
            }
            return regions.get(piece);
        }

        private Set<Integer> gather(int piece) {
            TreeSet<Integer> region = new TreeSet<>();
            List<Integer> queue = new ArrayList<>();
            queue.add(piece);
            region.add(piece);
            for (int n = 0; n < queue.size(); n++) {
                int here = queue.get(n);
                Laid tile = tiles.get(here / 8);
                for (int slot = 0; slot < 12; slot++) {
                    if (tile.partAt(slot) == here % 8 && kindOf(here) != CLOISTER) {
                        int there = beside(tile, slot);
                        if (there != NONE && region.add(there)) {
                            queue.add(there);
                        }
                    }
                }
            }
            return region;
        }

        int tileCount(Set<Integer> region) {
            Set<Integer> found = new TreeSet<>();
            for (int piece : region) {
                found.add(piece / 8);
            }
            return found.size();
        }

        int shields(Set<Integer> region) {
            int found = 0;
            for (int piece : region) {
                if (tiles.get(piece / 8).kind.shield[piece % 8]) {
                    found++;
                }
            }
            return found;
        }

        int open(Set<Integer> region) {
            int found = 0;
            for (int piece : region) {
                Laid tile = tiles.get(piece / 8);
                for (int slot = 0; slot < 12; slot++) {
                    if (kindOf(piece) != CLOISTER && tile.partAt(slot) == piece % 8 && beside(tile, slot) == NONE) {
                        found++;
                    }
                }
            }
            return found;
        }

        int around(Laid tile) {
            int found = 0;
            for (int dx = -1; dx <= 1; dx++) {
                for (int dy = -1; dy <= 1; dy++) {
                    if ((dx != 0 || dy != 0) && at(tile.x + dx, tile.y + dy) != null) {
                        found++;
                    }
                }
            }
            return found;
        }

        boolean finished(Set<Integer> region) {
            int piece = region.iterator().next();
            int kind = kindOf(piece);
            return (kind == CITY || kind == PATH) && open(region) == 0
                || kind == CLOISTER && around(tiles.get(piece / 8)) == 8;
        }

        int[] men(Set<Integer> region) {
            int[] men = new int[3];
            for (int piece : region) {
                if (followers.containsKey(piece)) {
                    men[followers.get(piece)]++;
                }
            }
            return men;
        }

        boolean fits(Kind kind, int x, int y, int turn) {
            if (x < -9 || x > 9 || y < -9 || y > 9 || turn < 0 || turn > 3 || at(x, y) != null) {
                return false;
            }
            if (tiles.isEmpty()) {
                return x == 0 && y == 0;
            }
            if (at(x, y - 1) == null && at(x + 1, y) == null && at(x, y + 1) == null && at(x - 1, y) == null) {
                return false;
            }
            Laid tile = new Laid(kind, x, y, turn);
            for (int slot = 0; slot < 12; slot++) {
                int piece = beside(tile, slot);
                if (piece != NONE && kindOf(piece) != kind.kind[tile.partAt(slot)]) {
                    return false;
                }
            }
            return true;
        }

        List<int[]> allFits(Kind kind) {
            List<int[]> all = new ArrayList<>();
            for (int y = -9; y <= 9; y++) {
                for (int x = -9; x <= 9; x++) {
                    for (int turn = 0; turn < 4; turn++) {
                        if (fits(kind, x, y, turn)) {
                            all.add(new int[] {x, y, turn});
                        }
                    }
                }
            }
            return all;
        }

        boolean mayPut(int part) {
            if (!laid || part < -1 || part > 7) {
                return false;
            }
            int piece = 8 * (tiles.size() - 1) + part;
            if (part == -1) {
                return true;
            }
            if (kindOf(piece) == 0 || left(mover) == 0) {
                return false;
            }
            for (int other : regionOf(piece)) {
                if (followers.containsKey(other)) {
                    return false;
                }
            }
            return true;
        }

        int finalPoints(int p) {
            int sum = points[p];
            Set<Integer> done = new TreeSet<>();
            for (int piece : followers.keySet()) {
                Set<Integer> region = regionOf(piece);
                int number = region.iterator().next();
                if (done.add(number) && isFirst(men(region), p)) {
                    sum += worth(region);
                }
            }
            return sum;
        }

        static boolean isFirst(int[] men, int p) {
            return men[p] >= men[0] && men[p] >= men[1] && men[p] >= men[2];
        }

        private int worth(Set<Integer> region) {
            int piece = region.iterator().next();
            switch (kindOf(piece)) {
                case CITY:
                    return tileCount(region) + shields(region);
                case PATH:
                    return tileCount(region);
                case CLOISTER:
                    return 1 + around(tiles.get(piece / 8));
                default:
                    return 3 * cities(region);
            }
        }

        private int cities(Set<Integer> field) {
            Set<Integer> found = new TreeSet<>();
            for (int piece : field) {
                int touch = tiles.get(piece / 8).kind.touch[piece % 8];
                for (int c = 0; c < 8; c++) {
                    if ((touch & 1 << c) != 0) {
                        Set<Integer> city = regionOf(piece / 8 * 8 + c);
                        if (finished(city)) {
                            found.add(city.iterator().next());
                        }
                    }
                }
            }
            return found.size();
        }
    }

    private final List<Kind> types = new ArrayList<>();
    private final List<Integer> list = new ArrayList<>();
    private final List<State> before = new ArrayList<>();
    private State now = new State();
    private boolean on;
    private int players;
    private int[] found;
    private int positions;

    int type(long slots, long kinds, long touches) {
        Kind made = make(slots, kinds, touches);
        if (made == null) {
            return BAD;
        }
        if (on || types.size() == 12) {
            return FULL;
        }
        types.add(made);
        return types.size() - 1;
    }

    private static Kind make(long slots, long kinds, long touches) {
        int[] part = new int[12];
        int[] kind = new int[8];
        int[] touch = new int[8];
        boolean[] shield = new boolean[8];
        int[] uses = new int[16];
        int cloisters = 0;
        for (int s = 0; s < 12; s++) {
            part[s] = (int) (slots % 16);
            if (slots < 0) {
                return null;
            }
            slots /= 16;
            uses[part[s]]++;
        }
        if (slots != 0) {
            return null;
        }
        for (int k = 0; k < 8; k++) {
            int code = (int) (kinds & 0xff);
            kinds >>>= 8;
            touch[k] = (int) (touches & 0xff);
            touches >>>= 8;
            shield[k] = (code & 8) != 0;
            kind[k] = code & ~8;
            if (kind[k] > 4 || shield[k] && kind[k] != CITY || touch[k] != 0 && kind[k] != FIELD) {
                return null;
            }
            boolean needsSlots = kind[k] == CITY || kind[k] == PATH || kind[k] == FIELD;
            if (needsSlots != uses[k] > 0 || uses[k + 8] > 0) {
                return null;
            }
            cloisters += kind[k] == CLOISTER ? 1 : 0;
        }
        for (int k = 0; k < 8; k++) {
            for (int c = 0; c < 8; c++) {
                if ((touch[k] & 1 << c) != 0 && kind[c] != CITY) {
                    return null;
                }
            }
        }
        for (int side = 0; side < 4; side++) {
            int a = part[3 * side];
            int b = part[3 * side + 1];
            int c = part[3 * side + 2];
            boolean whole = a == b && b == c && (kind[a] == CITY || kind[a] == FIELD);
            boolean crossed = kind[a] == FIELD && kind[b] == PATH && kind[c] == FIELD;
            if (!whole && !crossed) {
                return null;
            }
        }
        return cloisters > 1 ? null : new Kind(part, kind, shield, touch);
    }

    int draw(int type) {
        if (type < 0 || type >= types.size()) {
            return BAD;
        }
        if (on || list.size() == 24) {
            return FULL;
        }
        list.add(type);
        return list.size();
    }

    boolean start(int count) {
        if (count != 2 && count != 3 || list.isEmpty()) {
            return false;
        }
        before.clear();
        found = null;
        on = true;
        players = count;
        now = new State();
        drawNext(now);
        return true;
    }

    private void drawNext(State s) {
        while (s.inHand == NONE && s.next < list.size()) {
            int type = list.get(s.next++);
            if (s.allFits(types.get(type)).isEmpty()) {
                s.aside++;
            } else {
                s.inHand = type;
            }
        }
    }

    void clear() {
        on = false;
        found = null;
        types.clear();
        list.clear();
        before.clear();
        now = new State();
    }

    int drawn() {
        return now.inHand;
    }

    int game(int k) {
        switch (k) {
            case 0: return on && (now.laid || now.inHand != NONE) ? now.mover : NONE;
            case 1: return now.tiles.size();
            case 2: return now.aside;
            case 3: return before.size();
            case 4: return now.laid ? 1 : 0;
            case 5: return on ? list.size() - now.next : list.size();
            default: return BAD;
        }
    }

    int fits(int i, int k) {
        if (now.inHand == NONE || k < 0 || k > 2) {
            return FAR;
        }
        List<int[]> all = now.allFits(types.get(now.inHand));
        return i < 0 || i >= all.size() ? FAR : all.get(i)[k];
    }

    int place(int x, int y, int turn) {
        if (now.inHand == NONE || !now.fits(types.get(now.inHand), x, y, turn)) {
            return BAD;
        }
        found = null;
        before.add(now);
        now = afterLaying(now, x, y, turn);
        return now.tiles.size() - 1;
    }

    private State afterLaying(State s, int x, int y, int turn) {
        State then = s.copy();
        then.add(new Laid(types.get(s.inHand), x, y, turn));
        then.inHand = NONE;
        then.laid = true;
        return then;
    }

    int follow(int part) {
        if (!now.mayPut(part)) {
            return BAD;
        }
        found = null;
        before.add(now);
        State then = afterFollowing(now, part);
        int got = 0;
        for (int p = 0; p < 3; p++) {
            got += then.points[p] - now.points[p];
        }
        now = then;
        return got;
    }

    private State afterFollowing(State s, int part) {
        State then = s.copy();
        then.regions = s.regions;
        int last = s.tiles.size() - 1;
        if (part != -1) {
            then.followers.put(8 * last + part, s.mover);
        }
        Laid tile = s.tiles.get(last);
        for (int n = 0; n <= last; n++) {
            Laid other = s.tiles.get(n);
            boolean near = Math.abs(other.x - tile.x) <= 1 && Math.abs(other.y - tile.y) <= 1;
            for (int k = 0; k < 8; k++) {
                if (other.kind.kind[k] != 0 && (n == last || near && other.kind.kind[k] == CLOISTER)) {
                    score(then, 8 * n + k);
                }
            }
        }
        then.laid = false;
        then.mover = (s.mover + 1) % players;
        drawNext(then);
        return then;
    }

    private void score(State s, int piece) {
        Set<Integer> region = s.regionOf(piece);
        int[] men = s.men(region);
        if (men[0] + men[1] + men[2] == 0 || !s.finished(region)) {
            return;
        }
        int kind = s.kindOf(piece);
        int worth = kind == CITY ? 2 * s.tileCount(region) + 2 * s.shields(region)
            : kind == PATH ? s.tileCount(region) : 9;
        for (int p = 0; p < 3; p++) {
            if (State.isFirst(men, p)) {
                s.points[p] += worth;
            }
        }
        s.followers.keySet().removeAll(region);
    }

    boolean undo() {
        if (before.isEmpty()) {
            return false;
        }
        found = null;
        now = before.remove(before.size() - 1);
        return true;
    }

    int region(int x, int y, int part) {
        Laid tile = now.at(x, y);
        if (tile == null || part < 0 || part > 7 || tile.kind.kind[part] == 0) {
            return NONE;
        }
        return now.regionOf(8 * now.numberAt(x, y) + part).iterator().next();
    }

    int about(int number, int k) {
        if (number < 0 || number >= 8 * now.tiles.size() || now.kindOf(number) == 0) {
            return NONE;
        }
        Set<Integer> region = now.regionOf(number);
        if (region.iterator().next() != number) {
            return NONE;
        }
        switch (k) {
            case 0: return now.kindOf(number);
            case 1: return now.tileCount(region);
            case 2: return now.shields(region);
            case 3: return now.open(region);
            case 4: return now.finished(region) ? 1 : 0;
            case 5: case 6: case 7: return now.men(region)[k - 5];
            default: return NONE;
        }
    }

    int player(int p, int k) {
        if (!on || p < 0 || p >= players || k < 0 || k > 2) {
            return NONE;
        }
        return k == 0 ? now.points[p] : k == 1 ? now.left(p) : now.finalPoints(p);
    }

    int search(int budget) {
        if (now.inHand == NONE || list.size() - now.next > 1) {
            return NONE;
        }
        if (budget < 1 || budget > 1500) {
            return BAD;
        }
        positions = 0;
        int[] result = bestFrom(now, budget);
        if (result == null) {
            return SPENT;
        }
        found = result;
        return 1000 + result[4];
    }

    /** How many positions the latest search has looked at. */
    int positions() {
        return positions;
    }

    /** x, y, turn, part, value and the final points of all; null when there are too many positions. */
    private int[] bestFrom(State s, int budget) {
        int[] top = null;
        for (int[] spot : s.allFits(types.get(s.inHand))) {
            State laid = afterLaying(s, spot[0], spot[1], spot[2]);
            for (int part = -1; part < 8; part++) {
                if (!laid.mayPut(part)) {
                    continue;
                }
                positions++;
                if (positions > budget) {
                    return null;
                }
                State then = afterFollowing(laid, part);
                int[] comes = {0, 0, 0, 0, 0, then.finalPoints(0), then.finalPoints(1), then.finalPoints(2)};
                if (then.inHand != NONE) {
                    comes = bestFrom(then, budget);
                    if (comes == null) {
                        return null;
                    }
                }
                int others = Integer.MIN_VALUE;
                for (int p = 0; p < players; p++) {
                    others = p == s.mover ? others : Math.max(others, comes[5 + p]);
                }
                int value = comes[5 + s.mover] - others;
                if (top == null || value > top[4]) {
                    top = new int[] {spot[0], spot[1], spot[2], part, value, comes[5], comes[6], comes[7]};
                }
            }
        }
        return top;
    }

    int best(int k) {
        return found == null || k < 0 || k > 3 ? FAR : found[k];
    }
}
