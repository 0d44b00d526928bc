import java.lang.reflect.Constructor;
import java.lang.reflect.Field;
import java.lang.reflect.Method;
import java.lang.reflect.Modifier;
import java.util.Arrays;
import java.util.TreeSet;

/** The public face: its constants, its constructor and its methods, and nothing else that can be seen. */
public final class FaceTest {
    private static final String[] FACE = {
        "int about(int, int)", "int best(int)", "int draw(int)", "int drawn()", "int fits(int, int)", "int follow(int)",
        "int game(int)", "int place(int, int, int)", "int player(int, int)", "int region(int, int, int)",
        "int search(int)", "int type(long, long, long)", "boolean start(int)", "boolean undo()", "void clear()"};

    public static void main(String[] args) {
        constants();
        methods();
        everyArgument();
        Check.end();
    }

    private static void constants() {
        int[] values = {RealmTiles.NONE, RealmTiles.BAD, RealmTiles.FULL, RealmTiles.SPENT, RealmTiles.FAR,
            RealmTiles.CITY, RealmTiles.PATH, RealmTiles.FIELD, RealmTiles.CLOISTER};
        int[] due = {-1, -2, -3, -4, -100, 1, 2, 3, 4};
        Check.due("constants", Arrays.equals(values, due), true);
        int seen = 0;
        for (Field field : RealmTiles.class.getDeclaredFields()) {
            if (!Modifier.isPrivate(field.getModifiers())) {
                seen++;
            } else if (Modifier.isStatic(field.getModifiers())) {
                Check.due(field.getName() + " is final", Modifier.isFinal(field.getModifiers()), true);
            }
        }
        Check.due("fields that can be seen", seen, values.length);
    }

    private static void methods() {
        Check.due("public", Modifier.isPublic(RealmTiles.class.getModifiers()), true);
        Check.due("final", Modifier.isFinal(RealmTiles.class.getModifiers()), true);
        Constructor<?>[] constructors = RealmTiles.class.getDeclaredConstructors();
        Check.due("constructors", constructors.length, 1);
        Check.due("public constructor", Modifier.isPublic(constructors[0].getModifiers()), true);
        TreeSet<String> seen = new TreeSet<>();
        for (Method method : RealmTiles.class.getDeclaredMethods()) {
            if (!Modifier.isPrivate(method.getModifiers())) {
                String arguments = Arrays.toString(method.getParameterTypes()).replace("[", "(").replace("]", ")");
                seen.add(method.getReturnType() + " " + method.getName() + arguments);
            }
        }
        Check.due("methods: " + seen, seen.equals(new TreeSet<>(Arrays.asList(FACE))), true);
    }

    /** No call throws, whatever it is given and whatever state the game is in. */
    private static void everyArgument() {
        RealmTiles x = new RealmTiles();
        callAll(x);
        x = Tile.gameOf(3, Tile.GATE, Tile.ABBEY, Tile.ROAD);
        for (int n = 0; n < 6; n++) {
            callAll(x);
            if (x.game(4) == 1) {
                x.follow(-1);
            } else {
                x.place(x.fits(0, 0), x.fits(0, 1), x.fits(0, 2));
            }
        }
        callAll(x);
        x.clear();
        callAll(x);
    }

    private static void callAll(RealmTiles x) {
        int[] odd = {Integer.MIN_VALUE, -101, -100, -22, -11, -10, -3, -2, 5, 8, 10, 11, 21, 22, 24, 191, 192, 193, 440,
            441, 1443, 1764, 1765, Integer.MAX_VALUE};
        for (int a : odd) {
            x.game(a);
            x.best(a);
            x.search(a);
            Check.due("draw(" + a + ")", x.draw(a), RealmTiles.BAD);
            Check.due("start(" + a + ")", x.start(a), false);
            for (int b : odd) {
                x.fits(a, b);
                x.about(a, b);
                x.player(a, b);
                x.region(a, b, a);
                Check.due("place(" + a + ", " + b + ", " + a + ")", x.place(a, b, a), RealmTiles.BAD);
                Check.due("type(" + a + ", " + b + ", " + a + ")", x.type(a, b, a), RealmTiles.BAD);
            }
            Check.due("follow(" + a + ")", x.follow(a), RealmTiles.BAD);
        }
    }
}
