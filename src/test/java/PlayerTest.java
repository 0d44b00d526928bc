/** Promise 14: player. */
public final class PlayerTest {
    private static final int NONE = RealmTiles.NONE;

    public static void main(String[] args) {
        wrongArguments();
        unfinished();
        cloister();
        farmers();
        touchedTwice();
        twoFieldsOfOneTile();
        ties();
        moreThanTheOther();
        betweenLayingAndFollowing();
        Check.end();
    }

    private static void finals(String what, RealmTiles x, int... want) {
        for (int p = 0; p < want.length; p++) {
            Check.due(what + ": final points of player " + p, x.player(p, 2), want[p]);
        }
    }

    private static void wrongArguments() {
        RealmTiles x = new RealmTiles();
        Tile.MEADOW.giveTo(x);
        x.draw(0);
        Check.due("no game", x.player(0, 1), NONE);
        x.start(2);
        for (int k = 0; k < 3; k++) {
            Check.due("player 0", x.player(0, k), k == 1 ? 7 : 0);
            Check.due("player 1", x.player(1, k), k == 1 ? 7 : 0);
            Check.due("player 2 of two", x.player(2, k), NONE);
            Check.due("player -1", x.player(-1, k), NONE);
            Check.due("player of the greatest number", x.player(Integer.MAX_VALUE, k), NONE);
        }
        Check.due("k = 3", x.player(0, 3), NONE);
        Check.due("k = -1", x.player(0, -1), NONE);
        x.start(3);
        Check.due("player 2 of three", x.player(2, 1), 7);
        Check.due("player 3 of three", x.player(3, 1), NONE);
        x.clear();
        Check.due("cleared", x.player(0, 0), NONE);
    }

    private static void unfinished() {
        RealmTiles x = Tile.gameOf(2, Tile.CROWN, Tile.CORE, Tile.ROAD);
        Tile.turn(x, 0, 0, 0, 0, 0);
        finals("city with a shield", x, 2, 0);
        Tile.turn(x, 1, 0, 0, -1, 0);
        finals("city of two", x, 3, 0);
        Check.due("no points yet", x.player(0, 0), 0);
        x = Tile.gameOf(2, Tile.ROAD, Tile.ROAD);
        Tile.turn(x, 0, 0, 0, 0, 0);
        finals("path", x, 1, 0);
        Tile.turn(x, 0, 1, 0, 1, 0);
        finals("path of two, field without cities", x, 2, 0);
    }

    private static void cloister() {
        RealmTiles x = Tile.gameOf(2, Tile.ABBEY, Tile.ABBEY, Tile.ABBEY, Tile.ABBEY);
        Tile.turn(x, 0, 0, 0, 1, 0);
        finals("alone", x, 1, 0);
        Tile.turn(x, 1, 0, 0, 1, 0);
        finals("two", x, 2, 2);
        Tile.turn(x, 2, 0, 0, -1, 0);
        finals("three", x, 2, 3);
        Tile.turn(x, 1, 1, 0, -1, 0);
        finals("a corner counts", x, 3, 4);
    }

    private static void farmers() {
        RealmTiles x = Tile.gameOf(2, Tile.GATE, Tile.GATE, Tile.TWINS, Tile.GATE);
        Tile.turn(x, 0, 0, 0, 1, 0);
        finals("no finished city", x, 0, 0);
        Tile.turn(x, 0, -1, 2, 1, 0);
        finals("one city, two fields", x, 3, 3);
        Tile.turn(x, 1, -1, 0, -1, 0);
        finals("unfinished cities count nothing", x, 3, 3);
        Tile.turn(x, 1, 0, 0, -1, 0);
        finals("one more, touched by both", x, 6, 6);
        x = Tile.gameOf(2, Tile.DEAF_GATE, Tile.GATE);
        Tile.turn(x, 0, 0, 0, 1, 0);
        Tile.turn(x, 0, -1, 2, 1, 0);
        finals("a field that does not touch it", x, 0, 3);
    }

    /** One field touches one city by several pieces: it counts once. */
    private static void touchedTwice() {
        RealmTiles x = Tile.gameOf(2, Tile.GATE, Tile.GATE, Tile.MEADOW, Tile.MEADOW);
        Tile.turn(x, 0, 0, 0, 1, 0);
        Tile.turn(x, 0, -1, 2, -1, 0);
        Tile.turn(x, 1, -1, 0, -1, 0);
        Tile.turn(x, 1, 0, 0, -1, 0);
        Check.due("one field", x.region(0, -1, 1), 1);
        finals("one city", x, 3, 0);
    }

    /** Of two fields of one tile each counts but what it touches itself. */
    private static void twoFieldsOfOneTile() {
        Tile street = Tile.of("000111000222", "CFF", 1, 0);
        RealmTiles x = Tile.gameOf(2, street, Tile.DEAF_GATE, Tile.DEAF_GATE);
        Tile.turn(x, 0, 0, 0, 2, 0);
        Tile.turn(x, 0, -1, 2, -1, 0);
        x.place(0, 1, 0);
        Check.due("finished", x.about(0, 4), 1);
        finals("field that touches nothing", x, 0, 0);
        x.start(2);
        Tile.turn(x, 0, 0, 0, 1, 0);
        Tile.turn(x, 0, -1, 2, -1, 0);
        x.place(0, 1, 0);
        finals("field that touches the city", x, 3, 0);
    }

    private static void ties() {
        RealmTiles x = Tile.gameOf(2, Tile.GATE, Tile.GATE, Tile.MEADOW, Tile.GATE, Tile.MEADOW);
        Tile.turn(x, 0, 0, 0, 1, 0);
        Tile.turn(x, 0, -1, 2, 1, 0);
        Tile.turn(x, 1, -1, 0, -1, 0);
        finals("two fields", x, 3, 3);
        x.place(-1, -1, 2);
        Check.due("field of player 1", x.follow(1), RealmTiles.BAD);
        x.follow(-1);
        x.place(1, 0, 0);
        finals("one field, both are first", x, 3, 3);
    }

    /** Two followers of player 0 in one city against one of player 1. */
    private static void moreThanTheOther() {
        RealmTiles x = Tile.gameOf(2, Tile.GATE, Tile.MEADOW, Tile.GATE, Tile.MEADOW, Tile.MEADOW, Tile.GATE, Tile.CORE,
            Tile.GATE);
        Tile.turn(x, 0, 0, 0, 0, 0);
        Tile.turn(x, 1, 0, 0, -1, 0);
        Tile.turn(x, 1, -1, 3, 0, 0);
        Tile.turn(x, -1, 0, 0, -1, 0);
        Tile.turn(x, 2, 0, 0, -1, 0);
        Tile.turn(x, -1, -1, 1, 0, 0);
        finals("before they are joined", x, 2, 1);
        x.place(0, -1, 0);
        Check.due("followers of player 0", x.about(0, 5), 2);
        Check.due("followers of player 1", x.about(0, 6), 1);
        finals("joined", x, 4, 0);
        x.follow(-1);
        Tile.turn(x, 0, -2, 2, -1, 10);
        finals("finished", x, 10, 0);
        Check.due("followers left of player 0", x.player(0, 1), 7);
        Check.due("followers left of player 1", x.player(1, 1), 7);
    }

    private static void betweenLayingAndFollowing() {
        RealmTiles x = Tile.gameOf(2, Tile.SHIELD_GATE, Tile.GATE, Tile.MEADOW);
        Tile.turn(x, 0, 0, 0, 0, 0);
        x.place(0, -1, 2);
        finals("finished but not scored", x, 3, 0);
        Check.due("points", x.player(0, 0), 0);
        x.follow(1);
        finals("scored; and a field", x, 6, 3);
        Check.due("points", x.player(0, 0), 6);
        Check.due("points", x.player(1, 0), 0);
    }
}
