/** Promise 11: undo. */
public final class UndoTest {
    private static final int NONE = RealmTiles.NONE;

    public static void main(String[] args) {
        bothSteps();
        scored();
        allTheWay();
        afterTheEnd();
        Check.end();
    }

    private static void bothSteps() {
        RealmTiles x = Tile.gameOf(2, Tile.ABBEY, Tile.GATE);
        Check.due("undo of nothing", x.undo(), false);
        x.place(0, 0, 1);
        Check.due("steps", x.game(3), 1);
        Check.due("undo of laying", x.undo(), true);
        Check.due("tiles", x.game(1), 0);
        Check.due("steps", x.game(3), 0);
        Check.due("drawn", x.drawn(), 0);
        Check.due("whose turn", x.game(0), 0);
        Check.due("no tile", x.region(0, 0, 0), NONE);
        Check.due("it may be laid otherwise", x.place(0, 0, 3), 0);
        x.follow(1);
        Check.due("steps", x.game(3), 2);
        Check.due("followers", x.player(0, 1), 6);
        Check.due("undo of following", x.undo(), true);
        Check.due("steps", x.game(3), 1);
        Check.due("followers", x.player(0, 1), 7);
        Check.due("whose turn", x.game(0), 0);
        Check.due("a follower may follow", x.game(4), 1);
        Check.due("not drawn yet", x.game(5), 1);
        Check.due("drawn", x.drawn(), NONE);
        Check.due("none stands there", x.about(1, 5), 0);
        Check.due("it may be put otherwise", x.follow(0), 0);
        Check.due("it stands there", x.about(0, 5), 1);
        Check.due("drawn", x.drawn(), 1);
    }

    private static void scored() {
        RealmTiles x = Tile.gameOf(2, Tile.GATE, Tile.SHIELD_GATE, Tile.MEADOW);
        Tile.turn(x, 0, 0, 0, 0, 0);
        x.place(0, -1, 2);
        for (int n = 0; n < 3; n++) {
            Check.due("follow", x.follow(1), 6);
            Check.due("points", x.player(0, 0), 6);
            Check.due("followers", x.player(0, 1), 7);
            Check.due("followers of the other", x.player(1, 1), 6);
            Check.due("undo", x.undo(), true);
            Check.due("points", x.player(0, 0), 0);
            Check.due("followers", x.player(0, 1), 6);
            Check.due("followers of the other", x.player(1, 1), 7);
            Check.due("the follower is back", x.about(0, 5), 1);
            Check.due("the region is finished", x.about(0, 4), 1);
        }
        x.undo();
        Check.due("tiles of the region", x.about(0, 1), 1);
        Check.due("shields of the region", x.about(0, 2), 0);
        Check.due("open slots of the region", x.about(0, 3), 3);
        Check.due("the region is not finished", x.about(0, 4), 0);
        Check.due("its follower", x.about(0, 5), 1);
    }

    private static void allTheWay() {
        RealmTiles x = Tile.gameOf(3, Tile.GATE, Tile.STREET, Tile.GATE, Tile.ROAD, Tile.ABBEY);
        Tile.turn(x, 0, 0, 0, 0, 0);
        Tile.turn(x, 0, -1, 0, 1, 0);
        Tile.turn(x, 0, -2, 2, 1, 6);
        Tile.turn(x, 1, 0, 0, 0, 0);
        x.place(1, -2, 0);
        for (int steps = 9; steps > 0; steps--) {
            Check.due("steps", x.game(3), steps);
            Check.due("undo", x.undo(), true);
        }
        Check.due("undo of nothing", x.undo(), false);
        Check.due("steps", x.game(3), 0);
        Check.due("not drawn", x.game(5), 4);
        for (int p = 0; p < 3; p++) {
            Check.due("points", x.player(p, 0), 0);
            Check.due("followers", x.player(p, 1), 7);
            Check.due("final points", x.player(p, 2), 0);
        }
        Tile.turn(x, 0, 0, 2, 0, 0);
        Tile.turn(x, 0, 1, 2, -1, 0);
        Tile.turn(x, 0, 2, 0, -1, 6);
    }

    private static void afterTheEnd() {
        RealmTiles x = Tile.gameOf(2, Tile.END, Tile.END);
        Tile.turn(x, 0, 0, 0, 1, 0);
        Tile.turn(x, 0, -1, 2, -1, 2);
        Check.due("over", x.game(0), NONE);
        Check.due("undo", x.undo(), true);
        Check.due("whose turn", x.game(0), 1);
        Check.due("follow", x.follow(0), 2);
        Check.due("over again", x.game(0), NONE);
        Check.due("still on the field", x.player(1, 1), 6);
        x.clear();
        Check.due("undo after clear", x.undo(), false);
    }
}
