import java.util.ArrayList;
import java.util.List;

/** All that can be asked of an object, to see whether a call has left it, or made it, as it should be. */
final class Snapshot {
    private final RealmTiles seen;
    private final List<String> answers = new ArrayList<>();

    private Snapshot(RealmTiles x) {
        seen = x;
        answers.add("drawn() " + x.drawn());
        for (int k = 0; k < 6; k++) {
            answers.add("game(" + k + ") " + x.game(k));
        }
        for (int k = 0; k < 4; k++) {
            answers.add("best(" + k + ") " + x.best(k));
        }
        for (int p = 0; p < 3; p++) {
            for (int k = 0; k < 3; k++) {
                answers.add("player(" + p + ", " + k + ") " + x.player(p, k));
            }
        }
        lookAtFits(x);
        lookAtRegions(x);
    }

    static Snapshot of(RealmTiles x) {
        return new Snapshot(x);
    }

    private void lookAtFits(RealmTiles x) {
        for (int i = 0; x.fits(i, 0) != RealmTiles.FAR; i++) {
            for (int k = 0; k < 3; k++) {
                answers.add("fits(" + i + ", " + k + ") " + x.fits(i, k));
            }
        }
    }

    private void lookAtRegions(RealmTiles x) {
        int ids = 8 * x.game(1);
        for (int number = 0; number < ids; number++) {
            int kind = x.about(number, 0);
            answers.add("about(" + number + ", 0) " + kind);
            for (int k = 1; k < 8 && kind != RealmTiles.NONE; k++) {
                answers.add("about(" + number + ", " + k + ") " + x.about(number, k));
            }
        }
    }

    /** The object still answers as it did when this was made. */
    void holds() {
        holdsFor("what was refused", seen);
    }

    /** Another object answers so, too. */
    void holdsFor(String what, RealmTiles x) {
        List<String> others = of(x).answers;
        for (int n = 0; n < Math.min(answers.size(), others.size()); n++) {
            if (!others.get(n).equals(answers.get(n))) {
                Check.due(what + ": " + others.get(n) + " should be " + answers.get(n), false, true);
                return;
            }
        }
        Check.due(what + ": how much can be told", others.size(), answers.size());
    }
}
