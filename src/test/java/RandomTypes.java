import java.util.ArrayList;
import java.util.Collections;
import java.util.List;
import java.util.Random;

/** Makes types that are right, and spoils them. */
final class RandomTypes {
    private RandomTypes() {
    }

    /** Slots, kinds and touches. */
    static long[] make(Random random) {
        String[] tastes = {"CPF", "CPF", "CCF", "PPF", "CP", "C", "F", "P"};
        String taste = tastes[random.nextInt(tastes.length)];
        List<Integer> free = new ArrayList<>(List.of(0, 1, 2, 3, 4, 5, 6, 7));
        Collections.shuffle(free, random);
        int[] kind = new int[8];
        int[] part = new int[12];
        for (int side = 0; side < 4; side++) {
            char letter = taste.charAt(random.nextInt(taste.length()));
            if (letter == 'P') {
                part[3 * side] = take(random, free, kind, RealmTiles.FIELD);
                part[3 * side + 1] = take(random, free, kind, RealmTiles.PATH);
                part[3 * side + 2] = take(random, free, kind, RealmTiles.FIELD);
            } else {
                int whole = take(random, free, kind, letter == 'C' ? RealmTiles.CITY : RealmTiles.FIELD);
                part[3 * side] = whole;
                part[3 * side + 1] = whole;
                part[3 * side + 2] = whole;
            }
        }
        if (!free.isEmpty() && random.nextInt(2) == 0) {
            kind[free.remove(0)] = RealmTiles.CLOISTER;
        }
        return pack(random, part, kind);
    }

    /** A part of the kind: one that is there, or a new one; a place is kept for each kind of parts. */
    private static int take(Random random, List<Integer> free, int[] kind, int wanted) {
        List<Integer> there = new ArrayList<>();
        for (int k = 0; k < 8; k++) {
            if (kind[k] == wanted) {
                there.add(k);
            }
        }
        if (!there.isEmpty() && (free.size() <= 3 || random.nextInt(3) != 0)) {
            return there.get(random.nextInt(there.size()));
        }
        int made = free.remove(0);
        kind[made] = wanted;
        return made;
    }

    private static long[] pack(Random random, int[] part, int[] kind) {
        long slots = 0;
        long kinds = 0;
        long touches = 0;
        for (int s = 0; s < 12; s++) {
            slots |= (long) part[s] << 4 * s;
        }
        for (int k = 0; k < 8; k++) {
            boolean shield = kind[k] == RealmTiles.CITY && random.nextInt(4) == 0;
            kinds |= (long) (kind[k] + (shield ? 8 : 0)) << 8 * k;
            for (int c = 0; c < 8; c++) {
                if (kind[k] == RealmTiles.FIELD && kind[c] == RealmTiles.CITY && random.nextInt(3) != 0) {
                    touches |= 1L << 8 * k + c;
                }
            }
        }
        return new long[] {slots, kinds, touches};
    }

    static void spoil(Random random, long[] type) {
        int which = random.nextInt(3);
        type[which] ^= 1L << random.nextInt(64);
    }
}
