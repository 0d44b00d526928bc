import java.util.Arrays;

/** The boundary cases of promises 15 and 16, sentence by sentence: search and best. */
public final class SearchEdgesTest {
    private static final int NONE = RealmTiles.NONE, BAD = RealmTiles.BAD, SPENT = RealmTiles.SPENT, FAR = RealmTiles.FAR;
    private static final int LEAST = Integer.MIN_VALUE, GREATEST = Integer.MAX_VALUE;

    public static void main(String[] args) {
        howManyAreLeft();
        leftThoughTheyFitNowhere();
        nobodyLays();
        noBudget();
        leastBudget();
        greatestBudget();
        oneTooMany();
        linesWithNothingBehind();
        linesInOrder();
        finalPointsWhenOver();
        nextPlayersBestLine();
        greatestOfOthers();
        valuesOnBothSidesOfZero();
        nothingIsChanged();
        bestOfNone();
        bestAfterOtherAnswers();
        bestAfterSteps();
        bestAfterRefusedCalls();
        bestOfNoFollower();
        bestOfNoK();
        Check.end();
    }

    private static void best(String what, RealmTiles x, int... want) {
        for (int k = 0; k < 4; k++) {
            Check.due(what + ": best(" + k + ")", x.best(k), want.length == 0 ? FAR : want[k]);
        }
    }

    /** The search looks at just so many positions. */
    private static void positions(RealmTiles x, int count, int answer) {
        Check.due("search(" + (count - 1) + ")", x.search(count - 1), count == 1 ? BAD : SPENT);
        Check.due("search(" + count + ")", x.search(count), answer);
    }

    /** An end with a follower of player 0 on its path lies there; player 1 has to lay another end, the last tile. */
    private static RealmTiles ends() {
        RealmTiles x = Tile.gameOf(2, Tile.END, Tile.END);
        Tile.turn(x, 0, 0, 0, 1, 0);
        return x;
    }

    private static void howManyAreLeft() {
        Check.sentence("Promise 15: NONE when [..] more than one is left to be drawn");
        for (int behind = 0; behind <= 23; behind++) {
            RealmTiles x = Tile.gameOfAll(2, Tile.MEADOW, behind + 1);
            Check.due("left", x.game(5), behind);
            Check.due("search with " + behind + " behind", x.search(1500), behind <= 1 ? 1000 : NONE);
            Check.due("no budget with " + behind + " behind", x.search(0), behind <= 1 ? BAD : NONE);
            Check.due("too great a budget with " + behind + " behind", x.search(1501), behind <= 1 ? BAD : NONE);
        }
    }

    private static void leftThoughTheyFitNowhere() {
        RealmTiles x = Tile.gameOf(2, Tile.MEADOW, Tile.CORE, Tile.CORE);
        Check.due("two that will be put aside are left", x.search(1500), NONE);
        x = Tile.gameOf(2, Tile.MEADOW, Tile.CORE);
        positions(x, 8, 1000);
    }

    private static void nobodyLays() {
        Check.sentence("Promise 15: NONE when no player has to lay a tile");
        RealmTiles x = new RealmTiles();
        Tile.GATE.giveTo(x);
        for (int length = 0; length < 2; length++) {
            for (int budget : new int[] {1, 1500, 0, 1501}) {
                Check.due("no game, a list of " + length, x.search(budget), NONE);
            }
            x.draw(0);
        }
        x.start(2);
        for (int tile = 0; tile < 2; tile++) {
            Check.due("before laying", x.search(1500), tile == 0 ? 1000 : 1004);
            x.place(0, -tile, 2 * tile);
            for (int budget : new int[] {1, 1500, 0, 1501}) {
                Check.due("between laying and following", x.search(budget), NONE);
            }
            x.follow(-1);
        }
        for (int budget : new int[] {1, 1500, 0, 1501}) {
            Check.due("over", x.search(budget), NONE);
        }
        x.clear();
        Check.due("cleared", x.search(1500), NONE);
    }

    private static void noBudget() {
        Check.sentence("Promise 15: otherwise BAD when budget is not 1 .. 1500");
        RealmTiles x = ends();
        for (int budget : new int[] {0, -1, -2, -1500, LEAST, 1501, 1502, 3000, 1 << 16, GREATEST}) {
            Check.due("search(" + budget + ")", x.search(budget), BAD);
        }
        Check.due("search(1)", x.search(1), SPENT);
        Check.due("search(1500)", x.search(1500), 1000);
        x.place(0, -1, 2);
        Check.due("search(0) when none is to be laid", x.search(0), NONE);
        Check.due("search(1501) when none is to be laid", x.search(1501), NONE);
    }

    /** One place and turn, and no follower left: one position. Fourteen followers stand on a field and on cloisters. */
    private static void leastBudget() {
        Check.sentence("Promise 15: budget is not 1 .. 1500");
        Tile[] tiles = new Tile[15];
        Arrays.fill(tiles, Tile.ABBEY);
        tiles[0] = Tile.GATE;
        tiles[14] = Tile.of("010010222010", "FPC");
        RealmTiles x = Tile.gameOf(2, tiles);
        Tile.turn(x, 0, 0, 0, 1, 0);
        for (int n = 1; n < 14; n++) {
            Tile.turn(x, n < 10 ? n : 9, n < 10 ? 0 : n - 9, 0, 1, 0);
        }
        // Player 0: 3 for the city that the field touches, 3 + 3 + 3 + 4 + 4 + 3 for cloisters;
        // player 1: 4 + 3 + 3 + 3 + 3 + 3 + 2.
        positions(x, 1, 1000 + 23 - 21);
        best("the only line", x, 0, -1, 0, NONE);
    }

    private static void greatestBudget() {
        RealmTiles x = Tile.gameOf(2, Tile.TWINS, Tile.CORE, Tile.CORE, Tile.TWINS);
        Tile.turn(x, 0, 0, 2, 1, 0);
        Tile.turn(x, 0, 1, 3, -1, 0);
        positions(x, 1500, 1003);
        best("the best of 1500", x, -1, 1, 0, 0);
    }

    private static void oneTooMany() {
        Check.sentence("Promise 15: SPENT when there are more positions than budget");
        // This one has 1501.
        RealmTiles x = Tile.gameOf(3, Tile.BEND, Tile.MIXED, Tile.BEND, Tile.MIXED);
        Tile.turn(x, 0, 0, 1, -1, 0);
        Tile.turn(x, -1, 0, 0, -1, 0);
        Check.due("1501 positions", x.search(1500), SPENT);
        best("spent", x);
        Check.due("steps", x.game(3), 4);
        x = ends();
        for (int budget = 1; budget < 29; budget++) {
            Check.due("search(" + budget + ") of 29", x.search(budget), SPENT);
        }
        Check.due("search(29) of 29", x.search(29), 1000);
        Check.due("search(30) of 29", x.search(30), 1000);
    }

    private static void linesWithNothingBehind() {
        Check.sentence("Promise 15: (each line is one, whether there are lines behind it or not)");
        RealmTiles x = Tile.gameOf(2, Tile.GATE, Tile.GATE, Tile.CORE);
        Tile.turn(x, 0, 0, 0, 0, 0);
        // One spot closes the city: 2 lines, with none or one on the field, and none behind, as the core is put aside.
        // The 9 others have 3 lines each. Behind each, the core fits at both open cities in 4 turns: 4 lines at the
        // city with a follower, 8 at the other one, but 4 if the second gate's follower is there.
        positions(x, 2 + 9 * (3 + 12 + 12 + 8), 999);
        best("4 for the city of player 0, 3 for the field", x, 0, -1, 2, 1);
        x = Tile.gameOfAll(2, Tile.MEADOW, 2);
        // 4 turns with or without a follower; behind these 16 spots, and if there was none, with one or without.
        positions(x, 8 + 4 * 16 + 4 * 32, 1000);
    }

    private static void linesInOrder() {
        Check.sentence("Promise 15: lines go by places and turns as fits() has them, then none, then parts. [..] The BEST "
            + "line for a player is the first one of those");
        RealmTiles x = Tile.gameOfAll(2, Tile.MEADOW, 1);
        x.search(1500);
        best("all are equal: none comes first", x, 0, 0, 0, NONE);
        x = Tile.gameOfAll(2, Tile.MEADOW, 3);
        Tile.turn(x, 0, 0, 0, -1, 0);
        Tile.turn(x, 1, 0, 0, -1, 0);
        x.search(1500);
        best("all are equal: the first place", x, 0, -1, 0, NONE);
        x = Tile.gameOfAll(2, Tile.of("000111222333", "CCCC"), 1);
        Check.due("value", x.search(1500), 1001);
        best("four cities are equal: the first part and turn", x, 0, 0, 0, 0);
        x = Tile.gameOfAll(2, Tile.of("333333333333", "M..F"), 1);
        Check.due("value", x.search(1500), 1001);
        best("a cloister before the field", x, 0, 0, 0, 0);
        x = Tile.gameOfAll(2, Tile.of("000000000000", "F......M"), 1);
        Check.due("value", x.search(1500), 1001);
        best("a cloister at the last part", x, 0, 0, 0, 7);
    }

    private static void finalPointsWhenOver() {
        Check.sentence("Promise 15: What comes of a line: when the game is over, the final points");
        RealmTiles x = Tile.gameOf(2, Tile.ABBEY, Tile.ABBEY);
        Tile.turn(x, 0, 0, 0, 1, 0);
        // Laid beside the cloister, its own one is worth 2, as the other's then.
        Check.due("value", x.search(1500), 1000);
        best("the first", x, 0, -1, 0, 1);
        // The tile behind is put aside: so the game is over, too.
        x = Tile.gameOf(2, Tile.ABBEY, Tile.ABBEY, Tile.CORE);
        Tile.turn(x, 0, 0, 0, 1, 0);
        Check.due("with one that is put aside", x.search(1500), 1000);
        best("the first", x, 0, -1, 0, 1);
        Check.due("it is not put aside yet", x.game(2), 0);
    }

    private static void nextPlayersBestLine() {
        Check.sentence("Promise 15: else what comes of the best line of the next player");
        // Player 0 takes the cloister, player 1 takes one beside it: 2 and 2; without a follower it would be 0 and 2.
        RealmTiles x = Tile.gameOfAll(2, Tile.ABBEY, 2);
        positions(x, 12 + 12 * 16 * 3 - 4 * 16, 1000);
        best("the cloister", x, 0, 0, 0, 1);
        // Of three, player 2 has the city that both others must enlarge: that is bad for both, not good for one of them.
        x = Tile.gameOf(3, Tile.MEADOW, Tile.MEADOW, Tile.SHIELD_GATE, Tile.CORE, Tile.CORE);
        Tile.turn(x, 0, 0, 0, -1, 0);
        Tile.turn(x, 0, 1, 0, -1, 0);
        Tile.turn(x, 0, -1, 0, 0, 0);
        positions(x, 4 + 4 * 12, 996);
        best("the first", x, 0, -2, 0, NONE);
    }

    /** Of three players, player 2 lays the last tile, a meadow, and can get nothing. */
    private static void greatestOfOthers() {
        Check.sentence("Promise 15: the player's final points less the greatest ones of others are most; that is the value");
        RealmTiles x = Tile.gameOf(3, Tile.SHIELD_GATE, Tile.ABBEY, Tile.MEADOW);
        Tile.turn(x, 0, 0, 0, 0, 0);
        Tile.turn(x, 1, 0, 0, 1, 0);
        // 2 for the city, 2 for the cloister; away from the cloister, so that it does not become 3.
        Check.due("two others with 2", x.search(1500), 998);
        best("the first place away from the cloister", x, -1, 0, 0, NONE);
        x = Tile.gameOf(3, Tile.SHIELD_GATE, Tile.MEADOW, Tile.MEADOW);
        Tile.turn(x, 0, 0, 0, 0, 0);
        Tile.turn(x, 1, 0, 0, -1, 0);
        Check.due("2 for player 0", x.search(1500), 998);
        x = Tile.gameOf(3, Tile.MEADOW, Tile.SHIELD_GATE, Tile.MEADOW);
        Tile.turn(x, 0, 0, 0, -1, 0);
        Tile.turn(x, 1, 0, 0, 0, 0);
        Check.due("2 for player 1", x.search(1500), 998);
        x = Tile.gameOf(2, Tile.SHIELD_GATE, Tile.ABBEY, Tile.MEADOW);
        Tile.turn(x, 0, 0, 0, 0, 0);
        Tile.turn(x, 1, 0, 0, 1, 0);
        Check.due("of two players, 2 less 2", x.search(1500), 1000);
        best("the same place", x, -1, 0, 0, NONE);
    }

    private static void valuesOnBothSidesOfZero() {
        Check.sentence("Promise 15: Answers 1000 more than the value");
        RealmTiles x = Tile.gameOf(2, Tile.CROWN, Tile.MEADOW);
        Check.due("player 0 takes the city", x.search(1500), 1002);
        x = Tile.gameOf(2, Tile.CROWN, Tile.CROWN);
        Tile.turn(x, 0, 0, 0, 0, 0);
        Check.due("player 1 must enlarge it", x.search(1500), 996);
        x = Tile.gameOf(2, Tile.MEADOW);
        Check.due("nothing to be got", x.search(1500), 1000);
    }

    private static void nothingIsChanged() {
        Check.sentence("Promise 15: THE VALUE for the player whose turn it is, before a tile is laid");
        for (int budget : new int[] {1, 40, 700, 1500}) {
            RealmTiles x = Tile.gameOf(2, Tile.GATE, Tile.GATE, Tile.CORE);
            Tile.turn(x, 0, 0, 0, 0, 0);
            Snapshot before = Snapshot.of(x);
            x.search(budget);
            RealmTiles y = Tile.gameOf(2, Tile.GATE, Tile.GATE, Tile.CORE);
            Tile.turn(y, 0, 0, 0, 0, 0);
            // What best() tells is all that a search leaves; so both objects are asked behind the same search.
            y.search(1500);
            x.search(1500);
            Snapshot.of(y).holdsFor("after search(" + budget + ") and search(1500)", x);
            x.place(0, -1, 2);
            x.undo();
            before.holds();
        }
    }

    private static void bestOfNone() {
        Check.sentence("Promise 16: FAR when there is none such");
        RealmTiles x = new RealmTiles();
        best("new object", x);
        x = ends();
        best("no search yet", x);
        x.search(28);
        best("spent", x);
        x.search(0);
        best("no budget", x);
        x.search(1501);
        best("too great a budget", x);
        x.undo();
        x.search(1500);
        best("none to lay", x);
        x = Tile.gameOfAll(2, Tile.MEADOW, 3);
        x.search(1500);
        best("too many left", x);
    }

    private static void bestAfterOtherAnswers() {
        Check.sentence("Promise 16: Of the best line found by the latest search() that answered a value");
        RealmTiles x = ends();
        x.search(29);
        best("found", x, -1, 0, 0, 1);
        x.search(1);
        best("spent", x, -1, 0, 0, 1);
        x.search(0);
        best("no budget", x, -1, 0, 0, 1);
        x.search(1501);
        best("too great a budget", x, -1, 0, 0, 1);
        x.search(1500);
        best("found again", x, -1, 0, 0, 1);
    }

    private static void bestAfterSteps() {
        Check.sentence("Promise 16: (and no step was made or taken back since, nor a game begun or cleared away)");
        RealmTiles x = ends();
        x.search(29);
        x.place(1, 0, 0);
        best("a tile was laid", x);
        x.undo();
        best("and taken back", x);
        x.search(29);
        best("found again", x, -1, 0, 0, 1);
        x.undo();
        best("a step was taken back", x);
        x.follow(1);
        best("and made again", x);
        x.search(29);
        best("found again", x, -1, 0, 0, 1);
        x.start(2);
        best("a game was begun", x);
        x.search(1500);
        best("found in the new game", x, 0, 0, 0, 1);
        x.start(2);
        best("a game was begun at the same table", x);
        x.search(1500);
        x.clear();
        best("cleared away", x);
    }

    private static void bestAfterRefusedCalls() {
        RealmTiles x = Tile.gameOfAll(2, Tile.ABBEY, 2);
        x.search(1500);
        best("found", x, 0, 0, 0, 1);
        Check.due("undo", x.undo(), false);
        best("a step that was not taken back", x, 0, 0, 0, 1);
        Check.due("place", x.place(1, 0, 0), BAD);
        Check.due("place", x.place(0, 0, 4), BAD);
        best("a tile that was not laid", x, 0, 0, 0, 1);
        Check.due("follow", x.follow(-1), BAD);
        best("a follower that was not put", x, 0, 0, 0, 1);
        Check.due("start", x.start(4), false);
        best("a game that was not begun", x, 0, 0, 0, 1);
        Check.due("type", Tile.GATE.giveTo(x), RealmTiles.FULL);
        Check.due("draw", x.draw(0), RealmTiles.FULL);
        x.player(0, 2);
        x.fits(0, 0);
        best("what was asked and refused", x, 0, 0, 0, 1);
    }

    private static void bestOfNoFollower() {
        Check.sentence("Promise 16: k = 0 x, 1 y, 2 the turn, 3 the part, or NONE for no follower");
        RealmTiles x = Tile.gameOfAll(2, Tile.MEADOW, 1);
        x.search(1500);
        Check.due("no follower", x.best(3), NONE);
        x = Tile.gameOf(2, Tile.GATE, Tile.GATE);
        Tile.turn(x, 0, 0, 1, 0, 0);
        x.search(1500);
        // Its own city for one of player 0; at the first place north of the gate, in the first turn.
        best("a part", x, 0, -1, 0, 0);
        x = Tile.gameOf(2, Tile.GATE, Tile.SHIELD_GATE);
        Tile.turn(x, 0, 0, 1, -1, 0);
        x.search(1500);
        best("the city is finished, in turn 3, and taken", x, 1, 0, 3, 0);
        Check.due("place", x.place(x.best(0), x.best(1), x.best(2)), 1);
    }

    private static void bestOfNoK() {
        Check.sentence("Promise 16: FAR when [..] k is none of these");
        RealmTiles x = ends();
        x.search(29);
        for (int k : new int[] {-1, 4, 5, -2, 256, 1 << 16, LEAST, GREATEST}) {
            Check.due("best(" + k + ")", x.best(k), FAR);
        }
    }
}
