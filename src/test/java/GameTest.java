/** Promises 1 and 3 to 7: a new object, draw, start, clear, drawn and game. */
public final class GameTest {
    private static final int NONE = RealmTiles.NONE, BAD = RealmTiles.BAD, FULL = RealmTiles.FULL, FAR = RealmTiles.FAR;

    public static void main(String[] args) {
        nothing("new object", new RealmTiles());
        draws();
        starts();
        clears();
        putsAside();
        startsAfresh();
        Check.end();
    }

    private static void tells(String what, RealmTiles x, int... want) {
        for (int k = 0; k < want.length; k++) {
            Check.due(what + ": game(" + k + ")", x.game(k), want[k]);
        }
        Check.due(what + ": game(6)", x.game(6), BAD);
        Check.due(what + ": game(-1)", x.game(-1), BAD);
        Check.due(what + ": game(least)", x.game(Integer.MIN_VALUE), BAD);
    }

    private static void nothing(String what, RealmTiles x) {
        tells(what, x, NONE, 0, 0, 0, 0, 0);
        Check.due(what + ": drawn", x.drawn(), NONE);
        Check.due(what + ": draw", x.draw(0), BAD);
        Check.due(what + ": start", x.start(2), false);
        Check.due(what + ": fits", x.fits(0, 0), FAR);
        Check.due(what + ": place", x.place(0, 0, 0), BAD);
        Check.due(what + ": follow", x.follow(-1), BAD);
        Check.due(what + ": undo", x.undo(), false);
        Check.due(what + ": region", x.region(0, 0, 0), NONE);
        Check.due(what + ": about", x.about(0, 0), NONE);
        Check.due(what + ": player", x.player(0, 0), NONE);
        Check.due(what + ": search", x.search(10), NONE);
        Check.due(what + ": search with a bad budget", x.search(0), NONE);
        Check.due(what + ": best", x.best(0), FAR);
    }

    private static void draws() {
        RealmTiles x = new RealmTiles();
        Tile.MEADOW.giveTo(x);
        Tile.GATE.giveTo(x);
        for (int n = 1; n <= 24; n++) {
            Check.due("draw of no type", x.draw(2), BAD);
            Check.due("draw of a type below", x.draw(-1), BAD);
            Check.due("draw " + n, x.draw(n % 2), n);
            tells("list of " + n, x, NONE, 0, 0, 0, 0, n);
        }
        Check.due("draw 25", x.draw(0), FULL);
        Check.due("draw 25 of no type", x.draw(2), BAD);
        Check.due("still no tile drawn", x.drawn(), NONE);
        x.start(2);
        tells("a game of 24", x, 0, 0, 0, 0, 0, 23);
        Check.due("draw in the game", x.draw(0), FULL);
        Check.due("draw of no type in the game", x.draw(7), BAD);
    }

    private static void starts() {
        RealmTiles x = new RealmTiles();
        Tile.ABBEY.giveTo(x);
        Check.due("start without a list", x.start(2), false);
        x.draw(0);
        x.draw(0);
        x.draw(0);
        for (int players : new int[] {-1, 0, 1, 4, Integer.MAX_VALUE, Integer.MIN_VALUE}) {
            Check.due("start(" + players + ")", x.start(players), false);
        }
        tells("no game", x, NONE, 0, 0, 0, 0, 3);
        Check.due("start(3)", x.start(3), true);
        tells("begun", x, 0, 0, 0, 0, 0, 2);
        Check.due("drawn", x.drawn(), 0);
        x.place(0, 0, 0);
        tells("laid", x, 0, 1, 0, 1, 1, 2);
        Check.due("drawn when laid", x.drawn(), NONE);
        Check.due("a start that is refused", x.start(4), false);
        tells("still laid", x, 0, 1, 0, 1, 1, 2);
        x.follow(-1);
        tells("second turn", x, 1, 1, 0, 2, 0, 1);
        Tile.turn(x, 1, 0, 0, -1, 0);
        tells("third turn", x, 2, 2, 0, 4, 0, 0);
        Check.due("drawn in the third turn", x.drawn(), 0);
        Tile.turn(x, 2, 0, 0, -1, 0);
        tells("over", x, NONE, 3, 0, 6, 0, 0);
        Check.due("drawn when over", x.drawn(), NONE);
        Check.due("place when over", x.place(3, 0, 0), BAD);
        Check.due("follow when over", x.follow(-1), BAD);
        Check.due("draw when over", x.draw(0), FULL);
        Check.due("player when over", x.player(2, 1), 7);
        Check.due("third player of three", x.player(2, 0), 0);
    }

    private static void clears() {
        RealmTiles x = Tile.gameOf(2, Tile.ABBEY, Tile.ABBEY);
        Tile.turn(x, 0, 0, 0, 1, 0);
        x.clear();
        nothing("cleared", x);
        x.clear();
        nothing("cleared twice", x);
        Tile.MEADOW.giveTo(x);
        Check.due("a list begins anew", x.draw(0), 1);
        x.start(2);
        Check.due("all followers are there again", x.player(0, 1), 7);
        Check.due("the table is empty", x.region(0, 0, 0), NONE);
    }

    private static void putsAside() {
        RealmTiles x = Tile.gameOf(2, Tile.MEADOW, Tile.CORE, Tile.CORE, Tile.MEADOW, Tile.CORE);
        tells("begun", x, 0, 0, 0, 0, 0, 4);
        x.place(0, 0, 0);
        tells("laid", x, 0, 1, 0, 1, 1, 4);
        x.follow(-1);
        tells("two cities aside", x, 1, 1, 2, 2, 0, 1);
        Check.due("the meadow is drawn", x.drawn(), 0);
        Tile.turn(x, 0, 1, 0, -1, 0);
        tells("all aside and over", x, NONE, 2, 3, 4, 0, 0);
        x.undo();
        tells("the last one is not drawn yet", x, 1, 2, 2, 3, 1, 1);
        x.undo();
        x.undo();
        tells("none is aside", x, 0, 1, 0, 1, 1, 4);
        x.follow(-1);
        tells("two aside again", x, 1, 1, 2, 2, 0, 1);
    }

    private static void startsAfresh() {
        RealmTiles x = Tile.gameOf(3, Tile.GATE, Tile.GATE, Tile.MEADOW);
        Tile.turn(x, 0, 0, 0, 0, 0);
        Tile.turn(x, 0, -1, 2, -1, 4);
        Check.due("points", x.player(0, 0), 4);
        Check.due("start anew", x.start(2), true);
        tells("anew", x, 0, 0, 0, 0, 0, 2);
        Check.due("no points", x.player(0, 0), 0);
        Check.due("no third player", x.player(2, 0), NONE);
        Check.due("undo", x.undo(), false);
        Check.due("empty table", x.region(0, 0, 0), NONE);
        Tile.turn(x, 0, 0, 0, 0, 0);
        Check.due("a follower less", x.player(0, 1), 6);
        Check.due("start in the midst", x.start(2), true);
        Check.due("all followers", x.player(0, 1), 7);
    }
}
