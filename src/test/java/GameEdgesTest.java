import java.util.Arrays;

/** The boundary cases that the document names under 'What it is' and, of the game, under 'Terms'. */
public final class GameEdgesTest {
    private static final int NONE = RealmTiles.NONE, BAD = RealmTiles.BAD, FULL = RealmTiles.FULL;

    public static void main(String[] args) {
        allCallsOfSteps();
        allCallsOfSearches();
        begin();
        asideInARow();
        asideAtTheEnd();
        sevenFollowers();
        followersOfAny();
        firstAlone();
        firstTogether();
        firstWithMore();
        notScoredWithoutFollowers();
        scoredOnce();
        cloistersAround();
        cloisterNotAround();
        worths();
        turnsGoRound();
        overAfterTheLast();
        onWhenOver();
        finalPointsOfNothing();
        finalPointsOfCloisters();
        finalPointsOfFields();
        finalPointsOfAFullTable();
        steps();
        Check.end();
    }

    private static void points(RealmTiles x, int... want) {
        for (int p = 0; p < want.length; p++) {
            Check.due("points of player " + p, x.player(p, 0), want[p]);
        }
    }

    private static void left(RealmTiles x, int... want) {
        for (int p = 0; p < want.length; p++) {
            Check.due("followers left of player " + p, x.player(p, 1), want[p]);
        }
    }

    private static void allCallsOfSteps() {
        Check.sentence("What it is: An object is used for at most 512 calls after it has been made");
        RealmTiles x = Tile.gameOfAll(2, Tile.ABBEY, 24);
        int calls = 1 + 24 + 1;
        while (calls + 96 < 512) {
            for (int n = 0; n < 24; n++) {
                Check.due("place", x.place(n % 8, n / 8, n % 4), n);
                Check.due("follow", x.follow(n < 7 ? 1 : -1) >= 0, true);
            }
            for (int n = 0; n < 48; n++) {
                Check.due("undo", x.undo(), true);
            }
            calls += 96;
        }
        while (calls < 511) {
            Check.due("undo of nothing", x.undo(), false);
            calls++;
        }
        Check.due("call 512", x.place(0, 0, 0), 0);
    }

    private static void allCallsOfSearches() {
        RealmTiles x = Tile.gameOf(2, Tile.TWINS, Tile.CORE, Tile.CORE, Tile.TWINS);
        Tile.turn(x, 0, 0, 2, 1, 0);
        Tile.turn(x, 0, 1, 3, -1, 0);
        for (int calls = 2 + 4 + 1 + 2 * 3; calls < 511; calls++) {
            Check.due("search", x.search(1500), 1003);
        }
        Check.due("call 512", x.best(0), -1);
    }

    private static void begin() {
        Check.sentence("Terms: there are 2 or 3 players with 7 followers and no points each; player 0 begins");
        for (int players = 2; players <= 3; players++) {
            RealmTiles x = Tile.gameOf(players, Tile.GATE);
            for (int p = 0; p < 3; p++) {
                Check.due("points of " + p + " of " + players, x.player(p, 0), p < players ? 0 : NONE);
                Check.due("followers of " + p + " of " + players, x.player(p, 1), p < players ? 7 : NONE);
                Check.due("final points of " + p + " of " + players, x.player(p, 2), p < players ? 0 : NONE);
            }
            Check.due("who begins", x.game(0), 0);
            x.place(0, 0, 0);
            x.follow(0);
            Check.due("whose follower was put", x.about(0, 5), 1);
        }
    }

    private static void asideInARow() {
        Check.sentence("Terms: Before each turn the next tile of the list is DRAWN; if it fits nowhere it is put ASIDE, "
            + "and so on.");
        Tile[] tiles = new Tile[24];
        Arrays.fill(tiles, Tile.CORE);
        tiles[0] = Tile.MEADOW;
        tiles[23] = Tile.MEADOW;
        RealmTiles x = Tile.gameOf(3, tiles);
        x.place(0, 0, 0);
        Check.due("none is aside before the turn is over", x.game(2), 0);
        Check.due("nor drawn", x.game(5), 23);
        x.follow(-1);
        Check.due("aside", x.game(2), 22);
        Check.due("not drawn yet", x.game(5), 0);
        Check.due("drawn", x.drawn(), 0);
        Check.due("the turn is not lost", x.game(0), 1);
        x.undo();
        Check.due("none is aside when that is taken back", x.game(2), 0);
        Check.due("nor drawn", x.game(5), 23);
        // A tile that was put aside does not come again, even if it would fit later.
        x = Tile.gameOf(2, Tile.MEADOW, Tile.CORE, Tile.GATE, Tile.CORE);
        Tile.turn(x, 0, 0, 0, -1, 0);
        Check.due("the gate is drawn", x.drawn(), 2);
        Tile.turn(x, 0, 1, 2, -1, 0);
        Check.due("now a core fits", x.drawn(), 1);
        Check.due("aside", x.game(2), 1);
        Tile.turn(x, 0, 2, 0, -1, 0);
        Check.due("over", x.game(0), NONE);
        Check.due("aside", x.game(2), 1);
    }

    private static void asideAtTheEnd() {
        Check.sentence("Terms: if it fits nowhere it is put ASIDE, and so on. [..] When the list is through, the game is "
            + "OVER.");
        RealmTiles x = Tile.gameOf(2, Tile.MEADOW, Tile.CORE, Tile.CORE);
        x.place(0, 0, 0);
        Check.due("the turn is not over", x.game(0), 0);
        Check.due("follow", x.follow(-1), 0);
        Check.due("over", x.game(0), NONE);
        Check.due("drawn", x.drawn(), NONE);
        Check.due("aside", x.game(2), 2);
        Check.due("not drawn", x.game(5), 0);
        Check.due("undo", x.undo(), true);
        Check.due("not over", x.game(0), 0);
        Check.due("not drawn", x.game(5), 2);
    }

    private static void sevenFollowers() {
        Check.sentence("Terms: a follower may be put there when the player has one left");
        RealmTiles x = Tile.gameOfAll(2, Tile.ABBEY, 24);
        for (int n = 0; n < 14; n++) {
            Check.due("left", x.player(n % 2, 1), 7 - n / 2);
            Tile.turn(x, n < 10 ? n : 9, n < 10 ? 0 : n - 9, 0, 1, 0);
        }
        left(x, 0, 0);
        x.place(0, 1, 0);
        Check.due("the eighth", x.follow(1), BAD);
        Check.due("none", x.follow(-1), 0);
        left(x, 0, 0);
        // With the cloister at (1, 0) finished, its follower, of player 1, can be put again.
        int[] ring = {1, 1, 2, 1, 0, -1, 1, -1};
        for (int n = 0; n < 8; n += 2) {
            x.place(ring[n], ring[n + 1], 0);
            Check.due("none is left", x.follow(1), BAD);
            x.follow(-1);
        }
        x.place(2, -1, 0);
        Check.due("none is left until it is scored", x.follow(1), BAD);
        Check.due("the cloister", x.follow(-1), 9);
        left(x, 0, 1);
        x.place(3, -1, 0);
        Check.due("but not of player 0", x.follow(1), BAD);
        x.follow(-1);
    }

    private static void followersOfAny() {
        Check.sentence("Terms: and the piece's region has none of any player");
        RealmTiles x = Tile.gameOfAll(2, Tile.ABBEY, 4);
        Tile.turn(x, 0, 0, 0, 0, 0);
        x.place(1, 0, 0);
        Check.due("one of the other", x.follow(0), BAD);
        x.follow(-1);
        x.place(2, 0, 0);
        Check.due("one of its own", x.follow(0), BAD);
        Check.due("a region without", x.follow(1), 0);
        left(x, 5, 7);
    }

    private static void firstAlone() {
        Check.sentence("Terms: A player IS FIRST in a region that has followers when no other player has more there.");
        RealmTiles x = Tile.gameOf(3, Tile.GATE, Tile.GATE, Tile.MEADOW);
        Tile.turn(x, 0, 0, 0, 0, 0);
        Tile.turn(x, 0, -1, 2, -1, 4);
        points(x, 4, 0, 0);
        // Nobody is first in a region without followers.
        x = Tile.gameOf(3, Tile.CROWN, Tile.CROWN);
        Tile.turn(x, 0, 0, 0, -1, 0);
        for (int p = 0; p < 3; p++) {
            Check.due("final points of player " + p, x.player(p, 2), 0);
        }
    }

    /** Three gates with a follower of each player around a core; a fourth gate finishes the city. */
    private static void firstTogether() {
        RealmTiles x = Tile.gameOf(3, Tile.GATE, Tile.MEADOW, Tile.MEADOW, Tile.MEADOW, Tile.GATE, Tile.GATE, Tile.CORE,
            Tile.GATE);
        Tile.turn(x, 0, 0, 0, 0, 0);
        Tile.turn(x, -1, 0, 0, -1, 0);
        Tile.turn(x, 1, 0, 0, -1, 0);
        Tile.turn(x, -2, 0, 0, -1, 0);
        Tile.turn(x, -1, -1, 1, 0, 0);
        Tile.turn(x, 1, -1, 3, 0, 0);
        x.place(0, -1, 0);
        for (int p = 0; p < 3; p++) {
            Check.due("followers of player " + p, x.about(0, 5 + p), 1);
            Check.due("final points of player " + p, x.player(p, 2), 4);
        }
        x.follow(-1);
        x.place(0, -2, 2);
        Check.due("all three get the points", x.follow(-1), 30);
        points(x, 10, 10, 10);
        left(x, 7, 7, 7);
    }

    /** Two gates of player 0 and one of player 1 around a core. */
    private static void firstWithMore() {
        RealmTiles x = Tile.gameOf(2, Tile.GATE, Tile.MEADOW, Tile.GATE, Tile.MEADOW, Tile.MEADOW, Tile.GATE, Tile.CORE,
            Tile.GATE);
        Tile.turn(x, 0, 0, 0, 0, 0);
        Tile.turn(x, 1, 0, 0, -1, 0);
        Tile.turn(x, 1, -1, 3, 0, 0);
        Tile.turn(x, -1, 0, 0, -1, 0);
        Tile.turn(x, 2, 0, 0, -1, 0);
        Tile.turn(x, -1, -1, 1, 0, 0);
        x.place(0, -1, 0);
        Check.due("final points of player 0, with two", x.player(0, 2), 4);
        Check.due("final points of player 1, with one", x.player(1, 2), 0);
        x.follow(-1);
        Tile.turn(x, 0, -2, 2, -1, 10);
        points(x, 10, 0);
        left(x, 7, 7);
    }

    private static void notScoredWithoutFollowers() {
        Check.sentence("Terms: each finished region [..], if it has followers, is SCORED");
        RealmTiles x = Tile.gameOf(2, Tile.GATE, Tile.GATE);
        Tile.turn(x, 0, 0, 0, -1, 0);
        x.place(0, -1, 2);
        Check.due("none", x.follow(-1), 0);
        points(x, 0, 0);
        x.undo();
        Check.due("one on the finished city", x.follow(0), 4);
        points(x, 0, 4);
        left(x, 7, 7);
        x.undo();
        Check.due("one on the field", x.follow(1), 0);
        points(x, 0, 0);
        left(x, 7, 6);
    }

    /** A region that has two pieces of the tile, and one that was finished before. */
    private static void scoredOnce() {
        Check.sentence("Terms: each finished region that has a piece of that tile [..] and all its followers go back");
        Tile crossing = Tile.of("041152263370", "FFFFPPPP");
        RealmTiles x = Tile.gameOf(2, Tile.BEND, Tile.BEND, Tile.BEND, crossing);
        Tile.turn(x, 0, 0, 1, 0, 0);
        Tile.turn(x, 1, 0, 2, -1, 0);
        Tile.turn(x, 1, 1, 3, -1, 0);
        Tile.turn(x, 0, 1, 0, -1, 4);
        Check.due("followers", x.about(0, 5), 0);
        points(x, 4, 0);
        x = Tile.gameOf(2, Tile.GATE, Tile.GATE, Tile.MEADOW);
        Tile.turn(x, 0, 0, 0, 0, 0);
        Tile.turn(x, 0, -1, 2, -1, 4);
        Tile.turn(x, 1, 0, 0, -1, 0);
        points(x, 4, 0);
        Check.due("final points", x.player(0, 2), 4);
    }

    /** Two cloisters, of both players, are finished by one tile beside both; its own one is not. */
    private static void cloistersAround() {
        Check.sentence("Terms: and each finished cloister at one of the eight places around it");
        // The places around both, the corners behind the others; the first four are beside both.
        int[] ring = {0, -1, 1, -1, 0, 1, 1, 1, -1, 0, 2, 0, -1, -1, 2, -1, -1, 1, 2, 1};
        for (int last = 0; last < 4; last++) {
            RealmTiles x = Tile.gameOfAll(2, Tile.ABBEY, 12);
            Tile.turn(x, 0, 0, 0, 1, 0);
            Tile.turn(x, 1, 0, 0, 1, 0);
            for (int n = 0; n < 10; n++) {
                if (n != last) {
                    Tile.turn(x, ring[2 * n], ring[2 * n + 1], 0, -1, 0);
                }
            }
            x.place(ring[2 * last], ring[2 * last + 1], 0);
            Check.due("both are finished", x.about(1, 4) + x.about(9, 4), 2);
            Check.due("both are scored", x.follow(1), 18);
            points(x, 9, 9);
            left(x, 7, 6);
        }
    }

    private static void cloisterNotAround() {
        RealmTiles x = Tile.gameOfAll(2, Tile.ABBEY, 10);
        Tile.turn(x, 0, 0, 0, 1, 0);
        int[] ring = {1, 0, 1, 1, 0, 1, -1, 1, -1, 0, -1, -1, 0, -1};
        for (int n = 0; n < 14; n += 2) {
            Tile.turn(x, ring[n], ring[n + 1], 0, -1, 0);
        }
        Tile.turn(x, 2, 0, 0, -1, 0);
        Check.due("a tile two places away does not finish it", x.about(1, 4), 0);
        Tile.turn(x, 1, -1, 0, -1, 9);
        points(x, 9, 0);
    }

    private static void worths() {
        Check.sentence("Terms: who is first gets 2 for each tile and each shield of a city, 1 for each tile of a path, 9 "
            + "for a cloister");
        RealmTiles x = Tile.gameOf(2, Tile.SHIELD_GATE, Tile.STREET, Tile.SHIELD_GATE);
        Tile.turn(x, 0, 0, 0, 0, 0);
        Tile.turn(x, 0, -1, 0, -1, 0);
        Tile.turn(x, 0, -2, 2, -1, 2 * 3 + 2 * 2);
        x = Tile.gameOf(2, Tile.END, Tile.END);
        Tile.turn(x, 0, 0, 0, 1, 0);
        Tile.turn(x, 0, -1, 2, -1, 2);
        points(x, 2, 0);
        // A cloister gets no more than 9, and a tile that closes a gap gets it for its own cloister, too.
        x = Tile.gameOfAll(2, Tile.ABBEY, 9);
        int[] ring = {0, 0, 1, 0, 2, 0, 2, 1, 2, 2, 1, 2, 0, 2, 0, 1};
        for (int n = 0; n < 16; n += 2) {
            Tile.turn(x, ring[n], ring[n + 1], 0, -1, 0);
        }
        Tile.turn(x, 1, 1, 0, 1, 9);
        points(x, 9, 0);
        left(x, 7, 7);
    }

    private static void turnsGoRound() {
        Check.sentence("Terms: Then it is the next player's turn.");
        for (int players = 2; players <= 3; players++) {
            RealmTiles x = Tile.gameOfAll(players, Tile.ABBEY, 10);
            for (int n = 0; n < 10; n++) {
                Check.due("before laying tile " + n, x.game(0), n % players);
                x.place(n, 0, 0);
                Check.due("between", x.game(0), n % players);
                x.follow(1);
                Check.due("whose follower it is", x.about(8 * n + 1, 5 + n % players), 1);
            }
        }
    }

    private static void overAfterTheLast() {
        Check.sentence("Terms: When the list is through, the game is OVER.");
        RealmTiles x = Tile.gameOfAll(3, Tile.MEADOW, 1);
        Check.due("none is left to be drawn", x.game(5), 0);
        Check.due("but not over", x.game(0), 0);
        x.place(0, 0, 0);
        Check.due("laid, but not over", x.game(0), 0);
        Check.due("a follower may follow", x.game(4), 1);
        x.follow(-1);
        Check.due("over", x.game(0), NONE);
        Check.due("drawn", x.drawn(), NONE);
        Check.due("no follower may follow", x.game(4), 0);
        Check.due("place", x.place(1, 0, 0), BAD);
        Check.due("follow", x.follow(-1), BAD);
    }

    private static void onWhenOver() {
        Check.sentence("Terms: (It is ON from start() to clear(), also when it is over.)");
        RealmTiles x = Tile.gameOf(2, Tile.CROWN);
        Tile.turn(x, 0, 0, 0, 0, 0);
        Check.due("type", Tile.GATE.giveTo(x), FULL);
        Check.due("draw", x.draw(0), FULL);
        Check.due("player", x.player(0, 1), 6);
        Check.due("final points", x.player(0, 2), 2);
        Check.due("tiles", x.game(1), 1);
        Check.due("steps", x.game(3), 2);
        Check.due("region", x.region(0, 0, 0), 0);
        x.clear();
        Check.due("type after clear()", Tile.GATE.giveTo(x), 0);
        Check.due("player after clear()", x.player(0, 1), NONE);
    }

    private static void finalPointsOfNothing() {
        Check.sentence("Terms: THE FINAL POINTS of a player are the points, and for each region in which the player is "
            + "first: 1 for each tile and each shield of a city, 1 for each tile of a path");
        RealmTiles x = Tile.gameOf(2, Tile.CROWN, Tile.CROWN);
        Check.due("an empty table", x.player(0, 2), 0);
        Tile.turn(x, 0, 0, 0, -1, 0);
        Check.due("no followers", x.player(0, 2), 0);
        Tile.turn(x, 1, 0, 0, 0, 0);
        Check.due("a city of two tiles with two shields", x.player(1, 2), 4);
        Check.due("the other", x.player(0, 2), 0);
        x = Tile.gameOf(2, Tile.ROAD, Tile.ROAD);
        Tile.turn(x, 0, 0, 0, 0, 0);
        Tile.turn(x, 0, 1, 0, -1, 0);
        Check.due("a path of two tiles", x.player(0, 2), 2);
    }

    private static void finalPointsOfCloisters() {
        Check.sentence("Terms: 1 and 1 for each tile at the places around a cloister");
        RealmTiles x = Tile.gameOfAll(2, Tile.ABBEY, 10);
        x.place(0, 0, 0);
        Check.due("without a follower", x.player(0, 2), 0);
        x.follow(1);
        Check.due("none around", x.player(0, 2), 1);
        int[] ring = {1, 0, 1, 1, 0, 1, -1, 1, -1, 0, -1, -1, 0, -1, 1, -1};
        for (int n = 0; n < 8; n++) {
            x.place(ring[2 * n], ring[2 * n + 1], 0);
            Check.due((n + 1) + " around", x.player(0, 2), n + 2);
            x.follow(-1);
        }
        Check.due("scored", x.player(0, 0), 9);
        Check.due("and no more for it", x.player(0, 2), 9);
    }

    private static void finalPointsOfFields() {
        Check.sentence("Terms: 3 for each finished city that is touched by a piece of a field (that is, a city of the "
            + "same tile that the piece's part touches, with the region in which that is)");
        RealmTiles x = Tile.gameOf(2, Tile.GATE, Tile.GATE, Tile.MEADOW, Tile.MEADOW);
        Tile.turn(x, 0, 0, 0, 1, 0);
        Check.due("unfinished", x.player(0, 2), 0);
        x.place(0, -1, 2);
        Check.due("finished", x.player(0, 2), 3);
        x.follow(-1);
        Tile.turn(x, 1, -1, 0, -1, 0);
        x.place(1, 0, 0);
        Check.due("touched by two pieces of one field", x.player(0, 2), 3);
        // A city of a neighbour's tile is not touched, however near it lies.
        x = Tile.gameOf(2, Tile.MEADOW, Tile.DEAF_GATE, Tile.DEAF_GATE);
        Tile.turn(x, 0, 0, 0, 0, 0);
        Tile.turn(x, 1, 0, 0, -1, 0);
        x.place(1, -1, 2);
        Check.due("not touched", x.player(0, 2), 0);
        // Of two fields of one tile, but one touches the city.
        Tile street = Tile.of("000111000222", "CFF", 1, 0);
        for (int field = 1; field <= 2; field++) {
            x = Tile.gameOf(2, street, Tile.DEAF_GATE, Tile.DEAF_GATE);
            Tile.turn(x, 0, 0, 0, field, 0);
            Tile.turn(x, 0, -1, 2, -1, 0);
            x.place(0, 1, 0);
            Check.due("field " + field + " of the street", x.player(0, 2), field == 1 ? 3 : 0);
        }
        // Two finished cities of one tile, and one piece that touches both.
        x = Tile.gameOf(2, Tile.TWINS, Tile.GATE, Tile.GATE);
        Tile.turn(x, 0, 0, 0, 2, 0);
        Tile.turn(x, 0, -1, 2, -1, 0);
        Check.due("one finished", x.player(0, 2), 3);
        Tile.turn(x, 0, 1, 0, -1, 0);
        Check.due("both finished", x.player(0, 2), 6);
    }

    /** The greatest field: it touches the cities of the first two tiles and of the last two, of 24. */
    private static void finalPointsOfAFullTable() {
        Tile[] tiles = new Tile[24];
        Arrays.fill(tiles, Tile.MEADOW);
        tiles[0] = Tile.GATE;
        tiles[1] = Tile.GATE;
        tiles[22] = Tile.GATE;
        tiles[23] = Tile.GATE;
        RealmTiles x = Tile.gameOf(2, tiles);
        Tile.turn(x, 0, 0, 1, 1, 0);
        Tile.turn(x, 1, 0, 3, -1, 0);
        for (int n = 2; n < 22; n++) {
            Tile.turn(x, n < 12 ? n - 2 : n - 12, n < 12 ? 1 : 2, 0, -1, 0);
        }
        Check.due("one city", x.player(0, 2), 3);
        Tile.turn(x, 2, 0, 1, -1, 0);
        Check.due("the last one's best line: the city is taken", x.search(1500), 1000 + 4 - 6);
        Tile.turn(x, 3, 0, 3, 0, 4);
        Check.due("two cities", x.player(0, 2), 6);
        Check.due("of player 1", x.player(1, 2), 4);
        Check.due("the field's tiles", x.about(1, 1), 24);
    }

    private static void steps() {
        Check.sentence("Terms: STEPS of the game are laying a tile and putting a follower or none; they can be taken back.");
        RealmTiles x = Tile.gameOfAll(2, Tile.ABBEY, 2);
        Check.due("none", x.game(3), 0);
        x.place(0, 0, 0);
        Check.due("laid", x.game(3), 1);
        x.follow(-1);
        Check.due("none put", x.game(3), 2);
        x.place(1, 0, 0);
        x.follow(1);
        Check.due("one put", x.game(3), 4);
        for (int left = 3; left >= 0; left--) {
            Check.due("undo", x.undo(), true);
            Check.due("left", x.game(3), left);
        }
        Check.due("no more", x.undo(), false);
    }
}
