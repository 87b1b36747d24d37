/** Promises 13 to 16, 18 and 19: what positions are worth, the longest row, chances when players err. */
public final class ValuePromiseTest {
    private static final Check CHECK = new Check();
    private static final String TAKE = "board 4;piece a at 0 of 2;may a up 1 when all;may a up 2 when all;";

    public static void main(String[] args) {
        values();
        losingLater();
        mixedLoss();
        drawn();
        stuck();
        lastPosition();
        worth();
        longest();
        errs();
        likely();
        likelyEnds();
        CHECK.finish();
    }

    private static void value(SundayGame x, int position, int worth, int in, int best) {
        CHECK.is("promise 13: " + position + " worth", x.value(position, 0), worth);
        CHECK.is("promise 13: " + position + " in", x.value(position, 1), in);
        CHECK.is("promise 13: " + position + " best", x.value(position, 2), best);
    }

    private static void values() {
        SundayGame x = Check.gameOf(TAKE);
        for (int who = 0; who < 2; who++) {
            value(x, who, -1, 2, 1);
            value(x, 2 + who, 1, 1, 3);
            value(x, 4 + who, 1, 1, 3);
            value(x, 6 + who, -1, 0, -1);
            value(x, 8 + who, -1, 0, -1);
        }
        CHECK.is("promise 13: no position", x.value(10, 0), -2);
        CHECK.is("promise 13: no position", x.value(-1, 0), -2);
        CHECK.is("promise 13: other", x.value(0, 3), -2);
        CHECK.is("promise 13: other", x.value(0, -1), -2);
        CHECK.is("promise 13: without fields", new SundayGame().value(0, 0), -2);
    }

    /** From 0 one may lose at once by going to 1, or later by going to 2. */
    private static void losingLater() {
        SundayGame x = Check.gameOf("board 5;piece a at 0 of 2;may a up 1 when all;may a up 2 when a=0;"
            + "loses when spot=0 and goal=1;wins when a=3;");
        value(x, 0, -1, 2, 2);
        value(x, 4, 1, 1, 3);
        SundayGame y = Check.gameOf("board 7;piece a at 0 of 2;may a up 3 when a=0 or a=3;may a up 1 when a=0 or a=3 or a=1;"
            + "may a up 2 when a=1;wins when a=6;loses when a=4;");
        value(y, 6, 1, 1, 6);
        value(y, 2, 1, 1, 2);
        value(y, 0, -1, 2, 1);
    }

    private static void mixedLoss() {
        SundayGame x = Check.gameOf("board 4;piece a at 0 of 2;may a up 1 when a=0;may a up 2 when a=0;may a up 1 when a=2;"
            + "loses when a=1;wins when a=3;");
        value(x, 0, -1, 2, 2);
        SundayGame y = Check.gameOf("board 4;piece a at 0 of 2;may a up 1 when all;may a up 2 when all;loses when all;");
        value(y, 0, -1, 1, 1);
    }

    private static void drawn() {
        SundayGame x = Check.gameOf("board 3;piece a at 1 of 2;may a up 1 when all;may a down 1 when all;"
            + "loses when a=2 and who=0;wins when a=2 and who=1;");
        value(x, 0, -1, 2, 1);
        value(x, 1, 0, -1, 1);
        value(x, 2, 0, -1, 0);
        value(x, 3, 1, 1, 2);
        value(x, 4, -1, 2, 1);
        CHECK.is("promise 14: drawn", x.worth(), 0);
        CHECK.is("promise 15: drawn", x.hat(), -1);
        CHECK.is("promise 16: a round", x.longest(), -1);
    }

    private static void stuck() {
        SundayGame loses = Check.gameOf("board 2;piece a at 1 of 2;may a up 1 when all;");
        value(loses, 2, -1, 0, -1);
        value(loses, 0, 1, 1, 1);
        SundayGame draws = Check.gameOf("board 2;piece a at 1 of 2;may a up 1 when all;stuck draws;");
        value(draws, 2, 0, -1, -1);
        value(draws, 0, 0, -1, 1);
        SundayGame wins = Check.gameOf("board 2;piece a at 1 of 2;may a up 1 when all;stuck wins;");
        value(wins, 2, 1, 0, -1);
        value(wins, 0, -1, 1, 1);
        CHECK.is("promise 14: stuck loses", loses.worth(), -1);
        CHECK.is("promise 14: stuck draws", draws.worth(), 0);
        CHECK.is("promise 14: stuck wins", wins.worth(), 1);
        CHECK.is("promise 16: no move", wins.longest(), 0);
        CHECK.is("promise 14: no piece", Check.gameOf("board 2;").worth(), -1);
    }

    /** The highest number that a position can have. */
    private static void lastPosition() {
        SundayGame x = Check.gameOf("board 9;piece a at 0 of 2;piece b at 8 of 2;may a off when all;may b off when all;");
        value(x, 199, -1, 0, -1);
        value(x, 180, 1, 1, 19);
        value(x, 16, -1, 2, 9);
        CHECK.is("promise 13: behind the last position", x.value(200, 0), -2);
        CHECK.is("promise 16: both go off", x.longest(), 2);
    }

    private static void worth() {
        SundayGame x = Check.gameOf("board 3;piece a at 0 of 0;may a up 1 when all;");
        CHECK.is("promise 14: on Sunday 0", x.worth(), 1);
        CHECK.is("promise 15: on Sunday 0", x.hat(), 0);
        x.sunday();
        CHECK.is("promise 14: on Sunday 1", x.worth(), -1);
        CHECK.is("promise 15: on Sunday 1", x.hat(), 0);
        CHECK.is("promise 14: without fields", new SundayGame().worth(), -2);
    }

    private static void longest() {
        CHECK.is("promise 16: of steps", Check.gameOf(TAKE).longest(), 3);
        CHECK.is("promise 16: to the end", Check.gameOf(TAKE + "wins when a=1;").longest(), 2);
        CHECK.is("promise 16: an end counts", Check.gameOf(TAKE + "wins when all;").longest(), 1);
        SundayGame x = Check.gameOf("board 4;piece a at 0 of 2;piece b at 3 of 2;may a up 1 when all;may b down 1 when all;"
            + "may a down 1 when b=4;");
        CHECK.is("promise 16: a round that is not reached", x.longest(), 6);
        CHECK.is("promise 16: without fields", new SundayGame().longest(), -1);
        SundayGame y = Check.gameOf("board 4;piece a at 0 of 2;may a up 1 when all;may a down 1 when who=1;");
        CHECK.is("promise 16: a round", y.longest(), -1);
    }

    private static void errs() {
        SundayGame x = new SundayGame();
        CHECK.is("promise 18: at first", x.errs(0, 100), 0);
        CHECK.is("promise 18: what it was", x.errs(0, 0), 100);
        CHECK.is("promise 18: the other", x.errs(1, 5), 0);
        CHECK.is("promise 18: no player", x.errs(2, 5), -1);
        CHECK.is("promise 18: no player", x.errs(-1, 5), -1);
        CHECK.is("promise 18: too many", x.errs(0, 101), -1);
        CHECK.is("promise 18: too few", x.errs(0, -1), -1);
        CHECK.is("promise 18: all stays", x.errs(1, 6), 5);
        CHECK.is("promise 35: refused", x.status(4), 4);
    }

    private static void likely() {
        SundayGame x = Check.gameOf(TAKE);
        CHECK.is("promise 19: no error", x.likely(40), 0);
        x.errs(1, 100);
        CHECK.is("promise 19: none yet", x.likely(2), 0);
        CHECK.is("promise 19: half", x.likely(3), 500000000);
        x.errs(0, 50);
        CHECK.is("promise 19: both err", x.likely(3), 375000000);
        CHECK.is("promise 19: in 0", x.likely(0), 0);
        CHECK.is("promise 19: too many", x.likely(41), -1);
        CHECK.is("promise 19: below 0", x.likely(-1), -1);
        CHECK.is("promise 19: without fields", new SundayGame().likely(1), -1);
        x.errs(0, 0);
        x.errs(1, 0);
        x.sunday();
        CHECK.is("promise 19: the other one begins, early", x.likely(1), 0);
        CHECK.is("promise 19: the other one begins", x.likely(2), 1000000000);
    }

    /** Three moves of which one wins: a third, rounded down, and what is rounded stays so. */
    private static void likelyEnds() {
        SundayGame x = Check.gameOf("board 4;piece a at 0 of 2;may a up 1 when all;may a up 2 when all;may a up 3 when all;"
            + "wins when a=3;loses when a=1;stuck draws;");
        CHECK.is("promise 19: the best move", x.likely(1), 1000000000);
        x.errs(0, 100);
        CHECK.is("promise 19: a third", x.likely(1), 333333333);
        x.errs(0, 50);
        CHECK.is("promise 19: half of it a third", x.likely(1), 666666666);
        x.errs(0, 1);
        CHECK.is("promise 19: of one hundredth", x.likely(1), 993333333);
        SundayGame stuck = Check.gameOf("board 2;stuck wins;");
        CHECK.is("promise 19: over at first", stuck.likely(0), 1000000000);
        stuck.sunday();
        CHECK.is("promise 19: over at first for the other", stuck.likely(40), 0);
        CHECK.is("promise 19: drawn", Check.gameOf("board 2;stuck draws;").likely(40), 0);
    }
}
