/** Promises 15 and 16: search and best. */
public final class SearchTest {
    private static final int NONE = RealmTiles.NONE, BAD = RealmTiles.BAD, SPENT = RealmTiles.SPENT, FAR = RealmTiles.FAR;

    public static void main(String[] args) {
        lastTile();
        twoTiles();
        tileThatIsPutAside();
        threePlayers();
        refusals();
        bestIsForgotten();
        Check.end();
    }

    private static void best(String what, RealmTiles x, int... want) {
        for (int k = 0; k < 4; k++) {
            Check.due(what + ": best(" + k + ")", x.best(k), want.length == 0 ? FAR : want[k]);
        }
        Check.due(what + ": best(4)", x.best(4), FAR);
        Check.due(what + ": best(-1)", x.best(-1), FAR);
    }

    private static RealmTiles ends() {
        RealmTiles x = Tile.gameOf(2, Tile.END, Tile.END);
        Tile.turn(x, 0, 0, 0, 1, 0);
        return x;
    }

    private static void lastTile() {
        RealmTiles x = ends();
        // To finish the other's path has 2 lines; each of the 9 other spots has 3; the best ones have a path for a path.
        Check.due("28 positions", x.search(28), SPENT);
        best("spent", x);
        Check.due("29 positions", x.search(29), 1000);
        best("a path of its own", x, -1, 0, 0, 1);
        Check.due("nothing is laid", x.game(1), 1);
        Check.due("no step is made", x.game(3), 2);
        Check.due("no follower is put", x.player(1, 1), 7);
        Check.due("spent again", x.search(1), SPENT);
        best("the latest value counts", x, -1, 0, 0, 1);
        Check.due("place", x.place(-1, 0, 0), 1);
        Check.due("follow", x.follow(1), 0);
        Check.due("final points", x.player(1, 2), 1);
    }

    private static void twoTiles() {
        RealmTiles x = Tile.gameOf(2, Tile.MEADOW, Tile.MEADOW, Tile.MEADOW);
        Check.due("two are left behind", x.search(1500), NONE);
        Tile.turn(x, 0, 0, 0, -1, 0);
        // 16 spots with and without a follower; behind them 24 spots, with a follower only if there is none yet.
        int positions = 32 + 16 * 48 + 16 * 24;
        Check.due("one too few", x.search(positions - 1), SPENT);
        Check.due("just enough", x.search(positions), 1000);
        best("the first of equals", x, 0, -1, 0, NONE);
        x = Tile.gameOf(2, Tile.CORE, Tile.GATE, Tile.GATE);
        Tile.turn(x, 0, 0, 0, -1, 0);
        // The first gate takes the core's city: 2 tiles; the next player does best with a city apart: 1 tile.
        Check.due("a city for player 1", x.search(1500), 1001);
        best("it takes the city", x, 0, -1, 2, 0);
    }

    private static void tileThatIsPutAside() {
        RealmTiles x = Tile.gameOf(2, Tile.MEADOW, Tile.MEADOW, Tile.CORE);
        Tile.turn(x, 0, 0, 0, -1, 0);
        Check.due("31", x.search(31), SPENT);
        Check.due("32", x.search(32), 1000);
        Check.due("one is still to be drawn", x.game(5), 1);
        Check.due("none is aside", x.game(2), 0);
        x = Tile.gameOf(3, Tile.ABBEY);
        // Four turns, each with none, the field and the cloister.
        Check.due("11", x.search(11), SPENT);
        Check.due("12", x.search(12), 1001);
        best("cloister", x, 0, 0, 0, 1);
    }

    /** The greatest of the others counts, not their sum nor the next one. */
    private static void threePlayers() {
        RealmTiles x = Tile.gameOf(3, Tile.CROWN, Tile.GATE, Tile.MEADOW);
        Tile.turn(x, 0, 0, 0, 0, 0);
        Check.due("drawn", x.drawn(), 1);
        // Player 1 can but join the city: it becomes 3 for player 0; the meadow comes behind it for player 2.
        Check.due("value", x.search(1500), 997);
        best("the first of equals", x, 0, -1, 2, NONE);
        Tile.turn(x, 0, -1, 2, -1, 0);
        Check.due("value for player 2", x.search(1500), 997);
        best("the first of equals", x, 0, -2, 0, NONE);
    }

    private static void refusals() {
        RealmTiles x = ends();
        for (int budget : new int[] {0, -1, 1501, Integer.MAX_VALUE, Integer.MIN_VALUE}) {
            Check.due("search(" + budget + ")", x.search(budget), BAD);
        }
        Check.due("search(1500)", x.search(1500), 1000);
        x.place(-1, 0, 0);
        Check.due("between laying and following", x.search(1500), NONE);
        Check.due("between laying and following, bad budget", x.search(0), NONE);
        x.follow(-1);
        Check.due("over", x.search(1500), NONE);
        Check.due("over, bad budget", x.search(1501), NONE);
        x = Tile.gameOf(2, Tile.MEADOW, Tile.MEADOW, Tile.MEADOW);
        Check.due("too many left, bad budget", x.search(0), NONE);
    }

    private static void bestIsForgotten() {
        RealmTiles x = ends();
        best("before", x);
        x.search(100);
        x.search(0);
        Check.due("refused place", x.place(0, 0, 0), BAD);
        Check.due("refused follow", x.follow(0), BAD);
        Check.due("refused start", x.start(1), false);
        Check.due("refused draw", x.draw(0), RealmTiles.FULL);
        best("kept", x, -1, 0, 0, 1);
        x.place(-1, 0, 0);
        best("after place", x);
        x.undo();
        best("after undo of it", x);
        x.search(100);
        best("found again", x, -1, 0, 0, 1);
        x.undo();
        best("after undo", x);
        x.follow(1);
        x.search(100);
        x.start(2);
        best("after start", x);
        x = ends();
        x.search(100);
        x.clear();
        best("after clear", x);
        x = ends();
        x.place(-1, 0, 0);
        Check.due("no search", x.search(100), NONE);
        x.follow(-1);
        best("after follow", x);
    }
}
