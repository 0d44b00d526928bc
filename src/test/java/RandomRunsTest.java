import java.util.Random;

/**
 * All promises: runs of calls on RealmTiles and PlainRealm with the same answers. The seed of each run is fixed, so
 * that a run that fails can be run again. They are longer than the document allows: asking is free of traces here.
 */
public final class RandomRunsTest {
    private static final int RUNS = 100;

    private final int run;
    private final Random random;
    private final RealmTiles x = new RealmTiles();
    private final PlainRealm plain = new PlainRealm();
    private int calls;
    private int types;

    private RandomRunsTest(int run) {
        this.run = run;
        random = new Random(run);
    }

    public static void main(String[] args) {
        int runs = args.length > 0 ? Integer.parseInt(args[0]) : RUNS;
        for (int run = 0; run < runs; run++) {
            new RandomRunsTest(run).go();
        }
        Check.end();
    }

    private void same(String call, long got, long want) {
        calls++;
        Check.due("run " + run + ", call " + calls + ": " + call, got, want);
    }

    private int any(int bound) {
        return random.nextInt(bound);
    }

    private void go() {
        boolean shortList = run % 2 == 0;
        for (int n = 0; n < 2; n++) {
            prepare(shortList ? 2 : 4);
            int length = shortList ? 2 + any(3) : 10 + any(15);
            for (int m = 0; m < length; m++) {
                drawOne();
            }
            begin();
            int steps = shortList ? 20 : 80;
            for (int m = 0; m < steps; m++) {
                step();
                ask();
            }
            askAll();
            x.clear();
            plain.clear();
            askAll();
        }
    }

    private void prepare(int most) {
        int count = 1 + any(most);
        for (int n = 0; n < count; n++) {
            long[] type = RandomTypes.make(random);
            giveType(type[0], type[1], type[2]);
            if (any(3) == 0) {
                RandomTypes.spoil(random, type);
                giveType(type[0], type[1], type[2]);
            }
        }
    }

    private void giveType(long slots, long kinds, long touches) {
        int number = plain.type(slots, kinds, touches);
        types = number >= 0 ? number + 1 : types;
        same("type(" + slots + ", " + kinds + ", " + touches + ")", x.type(slots, kinds, touches), number);
    }

    private void drawOne() {
        int type = any(12) == 0 ? any(16) - 1 : any(types);
        same("draw(" + type + ")", x.draw(type), plain.draw(type));
    }

    private void begin() {
        int players = any(30) == 0 ? any(5) : 2 + any(2);
        same("start(" + players + ")", x.start(players) ? 1 : 0, plain.start(players) ? 1 : 0);
    }

    private void step() {
        int what = any(20);
        if (what <= 1 || plain.game(0) == RealmTiles.NONE && what < 17) {
            same("undo()", x.undo() ? 1 : 0, plain.undo() ? 1 : 0);
        } else if (plain.game(0) == RealmTiles.NONE || what == 2 && any(12) == 0) {
            begin();
        } else if (what == 2) {
            wrongStep();
        } else if (plain.game(4) == 1) {
            followOne();
        } else {
            layOne();
        }
    }

    private void wrongStep() {
        int px = any(23) - 11;
        int py = any(5) - 2;
        int turn = any(6) - 1;
        same("place(" + px + ", " + py + ", " + turn + ")", x.place(px, py, turn), plain.place(px, py, turn));
        int part = any(11) - 2;
        same("follow(" + part + ")", x.follow(part), plain.follow(part));
    }

    private void layOne() {
        int fits = 0;
        while (plain.fits(fits, 0) != RealmTiles.FAR && fits < 60) {
            fits++;
        }
        same("fits(" + fits + ", 0)", x.fits(fits, 0), plain.fits(fits, 0));
        if (fits == 0) {
            return;
        }
        int i = any(fits);
        for (int n = 0; n < 6; n++) {
            int other = any(fits);
            if (liking(other) > liking(i)) {
                i = other;
            }
        }
        for (int k = 0; k < 3; k++) {
            same("fits(" + i + ", " + k + ")", x.fits(i, k), plain.fits(i, k));
        }
        int px = plain.fits(i, 0);
        int py = plain.fits(i, 1);
        int turn = plain.fits(i, 2);
        same("place(" + px + ", " + py + ", " + turn + ")", x.place(px, py, turn), plain.place(px, py, turn));
    }

    /**
     * Places with many tiles around them are taken more often, so that regions are finished and cloisters surrounded;
     * but some long runs go to the east or to the west, so that they come to the end of the places there.
     */
    private int liking(int i) {
        if (run % 6 == 5) {
            return run % 4 == 1 ? plain.fits(i, 0) : -plain.fits(i, 0);
        }
        return around(i);
    }

    private int around(int i) {
        int found = 0;
        for (int n = 0; n < 9; n++) {
            int px = plain.fits(i, 0) + n % 3 - 1;
            int py = plain.fits(i, 1) + n / 3 - 1;
            for (int part = 0; part < 8; part++) {
                if (plain.region(px, py, part) != RealmTiles.NONE) {
                    found++;
                    break;
                }
            }
        }
        return found;
    }

    private void followOne() {
        for (int n = 0; n < 3; n++) {
            int part = any(5) == 0 ? -1 : any(8);
            int got = plain.follow(part);
            same("follow(" + part + ")", x.follow(part), got);
            if (got != RealmTiles.BAD) {
                return;
            }
        }
        same("follow(-1)", x.follow(-1), plain.follow(-1));
    }

    private void ask() {
        int k = any(9) - 1;
        same("game(" + k + ")", x.game(k), plain.game(k));
        int px = any(5) - 2;
        int py = any(5) - 2;
        int part = any(9);
        same("region(" + px + ", " + py + ", " + part + ")", x.region(px, py, part), plain.region(px, py, part));
        int number = any(8 * plain.game(1) + 2);
        int what = any(10) - 1;
        same("about(" + number + ", " + what + ")", x.about(number, what), plain.about(number, what));
        int p = any(4);
        same("player(" + p + ", 2)", x.player(p, 2), plain.player(p, 2));
        if (any(4) == 0 || plain.drawn() != RealmTiles.NONE && plain.game(5) <= 1) {
            searchOne();
        }
        if (any(30) == 0) {
            askAll();
        }
    }

    /** With just as many positions as there are, and with one less. */
    private void searchOne() {
        // The plain program is slow on full tables, so it gets the whole budget on small ones.
        int budget = any(10) == 0 ? any(3) * 750 + any(3) - 1 : plain.game(1) <= 4 ? 1500 : 150;
        int value = plain.search(budget);
        int positions = plain.positions();
        same("search(" + budget + ")", x.search(budget), value);
        if (value >= 0) {
            same("search(" + positions + ")", x.search(positions), value);
            same("search(" + (positions - 1) + ")", x.search(positions - 1), plain.search(positions - 1));
        }
        for (int k = -1; k < 5; k++) {
            same("best(" + k + ")", x.best(k), plain.best(k));
        }
    }

    private void askAll() {
        for (int k = 0; k < 7; k++) {
            same("game(" + k + ")", x.game(k), plain.game(k));
        }
        same("drawn()", x.drawn(), plain.drawn());
        for (int p = 0; p < 3; p++) {
            for (int k = 0; k < 4; k++) {
                same("player(" + p + ", " + k + ")", x.player(p, k), plain.player(p, k));
            }
        }
        for (int number = 0; number < 8 * plain.game(1); number++) {
            for (int k = 0; k < 8; k++) {
                same("about(" + number + ", " + k + ")", x.about(number, k), plain.about(number, k));
            }
        }
    }
}
