/** Promises 20 to 24: changes, what they make, which turn the game over, undoing them. */
public final class ChangePromiseTest {
    private static final Check CHECK = new Check();
    private static final String SIX = "board 5;piece a at 0 of 2;may a up 1 when all;not a off when all;ever may a up 2 when all;"
        + "wins when a=4;may a down 3 when all;ever loses when a=5;";

    public static void main(String[] args) {
        codes();
        outcomes();
        turning();
        shortestOfTwoWords();
        make();
        undo();
        fortyAreKept();
        CHECK.finish();
    }

    private static void codesOf(String when, SundayGame x, int... codes) {
        CHECK.is("promise 20: how many " + when, x.change(-1), codes.length);
        for (int k = 0; k < codes.length; k++) {
            CHECK.is("promise 20: " + when + " " + k, x.change(k), codes[k]);
        }
        CHECK.is("promise 20: behind all", x.change(codes.length), -1);
        CHECK.is("promise 20: below NONE", x.change(-2), -1);
    }

    private static void codes() {
        SundayGame x = Check.gameOf(SIX);
        codesOf("at first", x, 0, 1, 3, 4, 5, 6, 7, 18, 19, 23, 24, 25, 26, 27);
        x.make(5);
        codesOf("places changed", x, 0, 1, 5, 6, 7, 9, 10, 18, 19, 23, 24, 25, 26, 27);
        x.make(10);
        x.make(6);
        codesOf("N mended and struck", x, 0, 1, 5, 6, 7, 8, 9, 18, 19, 23, 24, 25, 26, 27);
        codesOf("no rules", Check.gameOf("board 5;"));
        codesOf("without fields", new SundayGame());
        codesOf("ever ones alone", Check.gameOf("board 5;ever wins when all;"));
    }

    private static void outcomes() {
        SundayGame x = Check.gameOf("board 4;piece a at 0 of 2;may a up 1 when all;may a up 2 when all;");
        CHECK.is("promise 14: at first", x.worth(), -1);
        CHECK.is("promise 21: up 1 struck", x.outcome(0), 1);
        CHECK.is("promise 21: up 1 turned", x.outcome(1), 1);
        CHECK.is("promise 21: up 1 is up 1", x.outcome(2), -2);
        CHECK.is("promise 21: up 1 is up 2", x.outcome(3), 1);
        CHECK.is("promise 21: up 1 is up 3", x.outcome(4), 1);
        CHECK.is("promise 21: places changed", x.outcome(5), -1);
        CHECK.is("promise 21: up 2 struck", x.outcome(6), 1);
        CHECK.is("promise 21: up 2 is up 1", x.outcome(8), 1);
        CHECK.is("promise 21: up 2 is up 3", x.outcome(10), 1);
        CHECK.is("promise 21: the last with the next", x.outcome(11), -2);
        CHECK.is("promise 21: no place", x.outcome(12), -2);
        CHECK.is("promise 21: below 0", x.outcome(-1), -2);
        CHECK.is("promise 21: nothing was changed", x.worth(), -1);
        CHECK.is("promise 21: nothing can be undone", x.has(6), 0);
        CHECK.is("promise 21: without fields", new SundayGame().outcome(0), -2);
        SundayGame y = Check.gameOf("board 3;piece a at 0 of 0;may a up 1 when all;");
        CHECK.is("promise 21: Sunday 0", y.outcome(0), -1);
        y.sunday();
        CHECK.is("promise 21: Sunday 1", y.outcome(1), -1);
    }

    private static void turning() {
        SundayGame x = Check.gameOf("board 4;piece a at 0 of 2;may a up 1 when all;may a up 2 when all;");
        CHECK.is("promise 22: how many", x.turning(0), 8);
        CHECK.is("promise 22: as it is", x.turning(1), 1);
        CHECK.is("promise 22: the shortest", x.turning(2), 0);
        CHECK.is("promise 22: other", x.turning(3), -1);
        CHECK.is("promise 22: other", x.turning(-1), -1);
        CHECK.is("promise 22: without fields", new SundayGame().turning(0), -1);
        SundayGame drawn = Check.gameOf("board 4;piece a at 0 of 2;may a up 1 when all;stuck draws;");
        CHECK.is("promise 22: of drawn ones none", drawn.turning(0), 0);
        CHECK.is("promise 22: of drawn ones all", drawn.turning(1), 4);
        CHECK.is("promise 22: of drawn ones none", drawn.turning(2), -1);
        SundayGame toDraw = Check.gameOf("board 2;piece a at 0 of 2;may a up 1 when all;wins when all;stuck draws;");
        CHECK.is("promise 22: only wins about", toDraw.turning(0), 1);
        CHECK.is("promise 22: places alone", toDraw.turning(1), 1);
        CHECK.is("promise 22: wins about", toDraw.turning(2), 7);
    }

    /** A swap of the first two and a turning of the last do it: the one word has the greater code. */
    private static void shortestOfTwoWords() {
        SundayGame x = Check.gameOf("board 2;piece a at 0 of 2;ever may a up 1 when all;wins when all;loses when all;stuck draws;");
        CHECK.is("promise 14: lost", x.worth(), -1);
        CHECK.is("promise 21: swap", x.outcome(11), 1);
        CHECK.is("promise 21: struck", x.outcome(12), 1);
        CHECK.is("promise 21: turned", x.outcome(13), 1);
        CHECK.is("promise 22: how many", x.turning(0), 3);
        CHECK.is("promise 22: the fewest words", x.turning(2), 12);
        SundayGame y = Check.gameOf("board 2;piece a at 0 of 2;ever may a up 1 when all;wins when a=1;loses when a=1;"
            + "loses when a=1;wins when a=1;loses when a=1;loses when a=1;stuck draws;");
        CHECK.is("promise 14: lost", y.worth(), -1);
        CHECK.is("promise 22: by the last alone", y.turning(0), 1);
        CHECK.is("promise 22: by the last alone", y.turning(2), 37);
    }

    private static void make() {
        SundayGame x = Check.gameOf(SIX);
        CHECK.is("promise 23: struck", x.make(0), true);
        CHECK.is("promise 23: struck", x.rule(0, 5), 1);
        CHECK.is("promise 23: put back", x.make(0), true);
        CHECK.is("promise 23: put back", x.rule(0, 5), 0);
        CHECK.is("promise 23: N is that already", x.make(2), false);
        CHECK.is("promise 23: N", x.make(4), true);
        CHECK.is("promise 23: N", x.rule(0, 4), 3);
        CHECK.is("promise 23: N is that now", x.make(4), false);
        CHECK.is("promise 23: no N of off", x.make(8), false);
        CHECK.is("promise 23: not with ever", x.make(11), false);
        CHECK.is("promise 23: not of ever", x.make(12), false);
        CHECK.is("promise 23: not of ever", x.make(17), false);
        CHECK.is("promise 23: no N of wins", x.make(20), false);
        CHECK.is("promise 23: behind all", x.make(36), false);
        CHECK.is("promise 23: below 0", x.make(-6), false);
        CHECK.is("promise 35: refused", x.status(3), 9);
        CHECK.is("promise 23: places", x.make(23), true);
        CHECK.is("promise 23: places", x.rule(3, 0), 4);
        CHECK.is("promise 23: places", x.rule(4, 0), 3);
        CHECK.is("promise 23: turned with it", x.make(25), true);
        CHECK.is("promise 23: turned with it", x.rule(4, 1), 3);
        CHECK.is("promise 23: turned back", x.make(25), true);
        CHECK.is("promise 23: turned back", x.rule(4, 1), 2);
        CHECK.is("promise 6: made", x.has(6), 6);
        CHECK.is("promise 23: without fields", new SundayGame().make(0), false);
    }

    private static void undo() {
        SundayGame x = Check.gameOf(SIX);
        CHECK.is("promise 24: none", x.undo(), false);
        CHECK.is("promise 35: refused", x.status(3), 1);
        int[] before = Check.imageOf(x);
        int[] codes = {0, 1, 3, 4, 5, 5, 23, 0, 7, 25, 24, 5};
        for (int code : codes) {
            CHECK.is("promise 23: " + code, x.make(code), true);
        }
        for (int i = codes.length; i > 0; i--) {
            CHECK.is("promise 6: still", x.has(6), i);
            CHECK.is("promise 24: undone", x.undo(), true);
        }
        CHECK.is("promise 24: as it was", java.util.Arrays.equals(before, Check.imageOf(x)), true);
        CHECK.is("promise 24: none now", x.undo(), false);
        SundayGame y = Check.gameOf("board 3;piece a at 0 of 0;may a up 1 when all;");
        y.kind(1, 1);
        CHECK.is("promise 26: nothing helps", y.sunday(), -1);
        CHECK.is("promise 26: the loser's", y.sunday(), 0);
        CHECK.is("promise 6: struck", y.has(3), 1);
        CHECK.is("promise 24: of a Sunday", y.undo(), true);
        CHECK.is("promise 24: the Sunday stays", y.has(5), 2);
        CHECK.is("promise 24: put back", y.has(3), 0);
    }

    private static void fortyAreKept() {
        SundayGame x = Check.gameOf(SIX);
        x.make(6);
        for (int i = 0; i < 40; i++) {
            x.make(i % 2 == 0 ? 3 : 4);
        }
        CHECK.is("promise 24: forty", x.has(6), 40);
        for (int i = 0; i < 40; i++) {
            CHECK.is("promise 24: undone", x.undo(), true);
        }
        CHECK.is("promise 24: the oldest went", x.undo(), false);
        CHECK.is("promise 24: what it did stays", x.has(3), 1);
        CHECK.is("promise 24: the others are undone", x.rule(0, 4), 1);
    }
}
