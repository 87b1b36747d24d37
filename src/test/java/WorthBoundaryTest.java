/** Promises 13 to 16, 18 and 19, each sentence that names a boundary: values, the hat, the longest row, chances. */
public final class WorthBoundaryTest {
    private static final Sentences S = new Sentences();
    private static final int NONE = SundayGame.NONE;
    private static final int SURE = 1000000000;
    private static final int[] FAR = {Integer.MIN_VALUE, -2, Integer.MAX_VALUE};
    /** Up and down for ever. */
    private static final String ROUND = "board 2;piece a at 0 of 2;may a up 1 when all;may a down 1 when all;";

    public static void main(String[] args) {
        promise13StuckInNone();
        promise13WonInLeast();
        promise13LostInGreatest();
        promise13Drawn();
        promise13BestOfWon();
        promise13BestOfDrawn();
        promise13BestOfLost();
        promise13ToPositionNought();
        promise13WithoutMove();
        promise13NoneSuch();
        promise14WithoutFields();
        promise14Worths();
        promise15Drawn();
        promise15WhenOver();
        promise16Longest();
        promise16NotAllEnd();
        promise18SoMany();
        promise18CannotBe();
        promise19WhereItIsOver();
        promise19WithinNone();
        promise19NotAbove();
        promise19WhoIsToMove();
        promise19WithinForty();
        promise19CannotBe();
        S.finish();
    }

    private static void value(SundayGame x, int position, int worth, int in, int best) {
        S.is("worth of " + position, x.value(position, 0), worth);
        S.is("in how many of " + position, x.value(position, 1), in);
        S.is("best of " + position, x.value(position, 2), best);
    }

    // ---- promise 13

    private static void promise13StuckInNone() {
        S.term(13, "STUCK: in 0.");
        value(Check.gameOf("board 2;"), 0, -1, 0, NONE);
        value(Check.gameOf("board 2;stuck wins;"), 1, 1, 0, NONE);
        value(Check.gameOf("board 2;stuck draws;"), 0, 0, NONE, NONE);
    }

    private static void promise13WonInLeast() {
        S.term(13, "WON: a MOVE by which one has won (in 1), or behind which the other one has LOST in n - 1: the least n.");
        SundayGame x = Check.gameOf("board 4;piece a at 0 of 2;may a up 1 when all;");
        value(x, 6, -1, 0, NONE);
        value(x, 4, 1, 1, 3);
        value(x, 2, -1, 2, 2);
        value(x, 0, 1, 3, 1);
        SundayGame y = Check.gameOf("board 4;piece a at 0 of 2;may a up 1 when all;may a up 3 when all;");
        value(y, 0, 1, 1, 3);
        SundayGame z = Check.gameOf("board 4;piece a at 0 of 2;may a up 1 when all;may a up 2 when a=0;wins when spot=0 and goal=2;");
        value(z, 0, 1, 1, 2);
    }

    private static void promise13LostInGreatest() {
        S.term(13, "LOST: all MOVES lose at once (1), or lead to POSITIONS that are WON in n - 1: the greatest n.");
        value(Check.gameOf("board 4;piece a at 0 of 2;may a up 1 when all;may a up 2 when all;loses when all;"), 0, -1, 1, 1);
        SundayGame long4 = Check.gameOf("board 5;piece a at 0 of 2;may a up 1 when all;");
        value(long4, 0, -1, 4, 1);
        SundayGame mixed = Check.gameOf("board 4;piece a at 0 of 2;may a up 1 when a=0;may a up 2 when a=0;may a up 1 when a=2;"
            + "loses when a=1;wins when a=3;");
        value(mixed, 0, -1, 2, 2);
        SundayGame wins = Check.gameOf("board 2;piece a at 0 of 2;may a up 1 when all;stuck wins;");
        value(wins, 0, -1, 1, 1);
    }

    private static void promise13Drawn() {
        S.term(13, "All else is DRAWN.");
        SundayGame x = Check.gameOf(ROUND);
        value(x, 0, 0, NONE, 1);
        value(x, 3, 0, NONE, 0);
        value(x, 4, -1, 0, NONE);
        value(Check.gameOf("board 2;piece a at 0 of 2;may a up 1 when all;stuck draws;"), 0, 0, NONE, 1);
    }

    private static void promise13BestOfWon() {
        S.term(13, "of WON ones the first with the least n");
        SundayGame x = Check.gameOf("board 5;piece a at 0 of 2;may a up 3 when a=0;may a up 2 when a=0;may a up 1 when a=0;"
            + "wins when a=2 or a=3;stuck draws;");
        value(x, 0, 1, 1, 2);
        SundayGame stuckFirst = Check.gameOf("board 5;piece a at 0 of 2;may a up 1 when a=0;may a up 2 when a=0;wins when a=2;");
        value(stuckFirst, 0, 1, 1, 1);
        SundayGame off = Check.gameOf("board 5;piece a at 0 of 2;piece b at 0 of 2;may b up 1 when all;may a off when all;"
            + "wins when all;");
        value(off, 0, 1, 1, 5);
        value(off, 2 * 6 * 5, 1, 1, 11);
    }

    /** To 0 it loses at once, to 2 the other one wins, to 3 and 4 it is drawn. */
    private static void promise13BestOfDrawn() {
        S.term(13, "of DRAWN ones the first that leads to a DRAWN POSITION");
        SundayGame x = Check.gameOf("board 9;piece a at 1 of 2;may a up 3 when a=1;may a up 2 when a=1;may a up 1 when a=1;"
            + "may a down 1 when a=1;may a up 3 when a=2;loses when a=0;wins when a=5;stuck draws;");
        value(x, 2, 0, NONE, 3);
    }

    private static void promise13BestOfLost() {
        S.term(13, "of LOST ones the first with the greatest n");
        SundayGame like = Check.gameOf("board 9;piece a at 0 of 2;may a up 2 when a=0;may a up 1 when a=0;"
            + "may a up 3 when a=1 or a=2;wins when spot>0;");
        value(like, 0, -1, 2, 1);
        SundayGame later = Check.gameOf("board 9;piece a at 0 of 2;may a up 1 when a=0;may a up 2 when a=0;may a up 3 when a=0;"
            + "may a up 1 when a=2 or a=3;loses when a=1;wins when spot=2 or spot=3;");
        value(later, 0, -1, 2, 2);
        SundayGame stuck = Check.gameOf("board 4;piece a at 0 of 2;may a up 1 when a=0;may a up 2 when a=0;loses when a=2;stuck wins;");
        value(stuck, 0, -1, 1, 1);
    }

    /** By the only move of 1 it comes to the position whose number is 0, where 0 wins by going off. */
    private static void promise13ToPositionNought() {
        S.term(13, "Its number: of PIECES 0, 1, .. in order");
        SundayGame x = Check.gameOf("board 3;piece a at 2 of 2;may a down 1 when all;may a off when a=0;");
        value(x, 0, 1, 1, 3);
        value(x, 3, -1, 2, 0);
        value(x, 4, 1, 3, 1);
        S.is("three moves", x.longest(), 3);
        S.is("0 wins within three", x.likely(3), SURE);
        S.is("not within two", x.likely(2), 0);
    }

    private static void promise13WithoutMove() {
        S.promise(13, "in how many MOVES (1; NONE of DRAWN ones), THE BEST MOVE (2: as of lawful(); NONE without)");
        value(Check.gameOf(ROUND), 0, 0, NONE, 1);
        value(Check.gameOf(ROUND), 5, -1, 0, NONE);
        SundayGame second = Check.gameOf("board 9;piece a at 0 of 1;piece b at 0 of 0;may b off when all;");
        value(second, 0, 1, 1, 19);
    }

    private static void promise13NoneSuch() {
        S.promise(13, "-2 if there is none such, or for others.");
        SundayGame x = Check.gameOf(ROUND);
        S.is("the last", x.value(5, 0), -1);
        S.is("behind the last", x.value(6, 0), -2);
        S.is("position -1", x.value(-1, 0), -2);
        S.is("what 3", x.value(0, 3), -2);
        S.is("what -1", x.value(0, -1), -2);
        S.is("behind the last, what 3", x.value(6, 3), -2);
        for (int far : FAR) {
            S.is("far position", x.value(far, 0), -2);
            S.is("far what", x.value(0, far), -2);
        }
        for (int what = 0; what < 3; what++) {
            S.is("without fields", new SundayGame().value(0, what), -2);
        }
        SundayGame most = Check.gameOf("board 9;piece a at 0 of 2;piece b at 0 of 2;");
        S.is("the last of all", most.value(199, 1), 0);
        S.is("behind the last of all", most.value(200, 1), -2);
    }

    // ---- promises 14 and 15

    private static void promise14WithoutFields() {
        S.promise(14, "-2 without FIELDS");
        SundayGame x = new SundayGame();
        S.is("without", x.worth(), -2);
        Check.feed(x, "board 1;");
        x.game();
        S.is("with a fault", x.worth(), -2);
        Check.feed(x, "board 2;");
        x.game();
        S.is("with fields", x.worth(), -1);
    }

    private static void promise14Worths() {
        S.term(14, "1, if who begins has WON, -1 LOST, 0 DRAWN");
        S.is("drawn", Check.gameOf(ROUND).worth(), 0);
        SundayGame x = Check.gameOf("board 2;piece a at 0 of 0;may a up 1 when all;");
        S.is("0 begins and wins", x.worth(), 1);
        x.move(0, 1);
        S.is("whatever is played", x.worth(), 1);
        x.sunday();
        S.is("1 begins and is stuck", x.worth(), -1);
        x.sunday();
        S.is("0 begins again", x.worth(), 1);
    }

    private static void promise15Drawn() {
        S.promise(15, "NONE if it is DRAWN, or without FIELDS.");
        S.is("without fields", new SundayGame().hat(), NONE);
        S.is("drawn", Check.gameOf(ROUND).hat(), NONE);
        S.is("drawn, for it is stuck", Check.gameOf("board 2;stuck draws;").hat(), NONE);
        S.is("1 wins", Check.gameOf("board 2;").hat(), 1);
        S.is("0 wins", Check.gameOf("board 2;stuck wins;").hat(), 0);
        SundayGame x = Check.gameOf("board 4;piece a at 0 of 2;may a up 1 when all;");
        S.is("0 wins in 3", x.hat(), 0);
        x.move(0, 1);
        S.is("0 wins, 1 being to move", x.hat(), 0);
    }

    /** By its number the position would be won by the other one. */
    private static void promise15WhenOver() {
        S.promise(15, "(When it is over: who has won.)");
        SundayGame x = Check.gameOf("board 4;piece a at 0 of 2;may a up 1 when all;wins when a=1 or a=2;");
        x.move(0, 1);
        S.is("by its number", x.value(x.played(0), 0), 1);
        S.is("0 has won", x.hat(), 0);
        x.sunday();
        x.move(0, 1);
        S.is("1 has won", x.hat(), 1);
        SundayGame y = Check.gameOf("board 4;piece a at 0 of 2;may a up 1 when all;loses when a=1 or a=2;");
        y.move(0, 1);
        S.is("by its number", y.value(y.played(0), 0), -1);
        S.is("0 has lost", y.hat(), 1);
        SundayGame z = Check.gameOf("board 2;piece a at 0 of 2;may a up 1 when all;stuck draws;");
        z.move(0, 1);
        S.is("drawn", z.hat(), NONE);
    }

    // ---- promise 16

    private static void promise16Longest() {
        S.term(16, "THE LONGEST: the most MOVES of such a row");
        S.is("none", Check.gameOf("board 2;").longest(), 0);
        S.is("one, which ends it", Check.gameOf(ROUND + "wins when all;").longest(), 1);
        S.is("eighteen", Check.gameOf("board 9;piece a at 0 of 2;piece b at 0 of 2;may a up 1 when all;may b up 1 when all;"
            + "may a off when all;may b off when all;may a up 3 when all;").longest(), 18);
        SundayGame x = Check.gameOf("board 9;piece a at 0 of 2;may a up 3 when all;may a up 1 when a=3;may a up 2 when a=0;");
        S.is("to 3 and 6, or 3 and 4 and 7", x.longest(), 3);
        x.move(0, 3);
        S.is("from the beginning still", x.longest(), 3);
    }

    private static void promise16NotAllEnd() {
        S.promise(16, "NONE if not all rows end, or without FIELDS");
        S.is("without fields", new SundayGame().longest(), NONE);
        S.is("a round", Check.gameOf(ROUND).longest(), NONE);
        S.is("a round of some rows", Check.gameOf(ROUND + "may a off when all;").longest(), NONE);
        S.is("a round ahead of which it ends", Check.gameOf(ROUND + "loses when a=0;").longest(), 2);
        S.is("a round that is not reached",
            Check.gameOf("board 3;piece a at 2 of 2;may a up 1 when a=0;may a down 1 when a=1 or a=2;not a down 1 when a=1;")
                .longest(), 1);
        SundayGame x = Check.gameOf("board 2;piece a at 0 of 2;may a up 1 when who=0;may a down 1 when who=1;");
        S.is("a round on Sunday 0", x.longest(), NONE);
        x.sunday();
        S.is("none on Sunday 1", x.longest(), 0);
    }

    // ---- promises 18 and 19

    private static void promise18SoMany() {
        S.promise(18, "ERRS of a player (0, 1) are so many (0 .. 100): what they were");
        SundayGame x = new SundayGame();
        S.is("at first", x.errs(0, 100), 0);
        S.is("100", x.errs(0, 0), 100);
        S.is("0", x.errs(0, 1), 0);
        S.is("of the other one", x.errs(1, 100), 0);
        S.is("1", x.errs(0, 0), 1);
        S.is("of the other one", x.errs(1, 0), 100);
        S.is("no refusal", x.status(4), 0);
    }

    private static void promise18CannotBe() {
        S.promise(18, "NONE if it can't be");
        SundayGame x = new SundayGame();
        x.errs(0, 3);
        x.errs(1, 4);
        S.is("101", x.errs(0, 101), NONE);
        S.is("-1", x.errs(1, -1), NONE);
        S.is("player 2", x.errs(2, 5), NONE);
        S.is("player -1", x.errs(-1, 5), NONE);
        for (int far : FAR) {
            S.is("far player", x.errs(far, 5), NONE);
            S.is("far part", x.errs(0, far), NONE);
        }
        S.is("refusals", x.status(4), 10);
        S.is("as they were", x.errs(0, 0), 3);
        S.is("as they were", x.errs(1, 0), 4);
    }

    private static void promise19WhereItIsOver() {
        S.term(19, "of a POSITION where it is over (or behind a MOVE that ends it) 10 to the 9 or 0");
        SundayGame wins = Check.gameOf("board 2;stuck wins;");
        S.is("0 is stuck and wins, within none", wins.likely(0), SURE);
        S.is("0 is stuck and wins, within 40", wins.likely(40), SURE);
        wins.sunday();
        S.is("1 is stuck and wins", wins.likely(0), 0);
        S.is("0 is stuck and loses", Check.gameOf("board 2;").likely(0), 0);
        S.is("drawn", Check.gameOf("board 2;stuck draws;").likely(40), 0);
        SundayGame x = Check.gameOf("board 2;piece a at 0 of 2;may a up 1 when all;wins when all;");
        S.is("a move that wins", x.likely(1), SURE);
        x.sunday();
        S.is("the other one's", x.likely(1), 0);
        x.make(7);
        S.is("a move by which 1 loses", x.likely(1), SURE);
    }

    private static void promise19WithinNone() {
        S.term(19, "within 0 MOVES 0 else");
        SundayGame x = Check.gameOf("board 2;piece a at 0 of 2;may a up 1 when all;");
        S.is("0 wins in one", x.likely(0), 0);
        S.is("within one the other one is stuck", x.likely(1), SURE);
        SundayGame y = Check.gameOf("board 4;piece a at 0 of 2;may a up 1 when all;");
        S.is("in three, within two", y.likely(2), 0);
        S.is("in three, within three", y.likely(3), SURE);
    }

    /** On Sunday 1 the first of three moves loses: 3 of 100 of a third, of which each is cut off. */
    private static void promise19NotAbove() {
        S.term(19, "the greatest whole numbers not above");
        SundayGame x = Check.gameOf("board 4;piece a at 0 of 2;may a up 1 when all;may a up 2 when all;may a up 3 when all;"
            + "wins when a=2 or a=3;loses when a=1;");
        x.sunday();
        x.errs(1, 3);
        S.is("3 times 333333333 of 100", x.likely(1), 9999999);
        x.errs(1, 100);
        S.is("a third", x.likely(1), 333333333);
        x.errs(1, 1);
        S.is("a hundredth", x.likely(1), 3333333);
        x.errs(1, 0);
        S.is("no error", x.likely(1), 0);
        x.sunday();
        x.errs(0, 1);
        S.is("99 and two thirds", x.likely(1), 996666666);
    }

    private static void promise19WhoIsToMove() {
        S.term(19, "by ERRS of who is to move, each MOVE's within n - 1");
        SundayGame x = Check.gameOf("board 4;piece a at 0 of 2;may a up 1 when all;may a up 2 when all;");
        S.is("0 has lost", x.likely(40), 0);
        x.errs(0, 100);
        S.is("that 0 errs helps nobody", x.likely(40), 0);
        x.errs(0, 0);
        x.errs(1, 100);
        S.is("within 2", x.likely(2), 0);
        S.is("1 errs from 1 to 2 half of the time", x.likely(3), 500000000);
        S.is("within more", x.likely(40), 500000000);
    }

    /** From 1 one goes to 2, where 0 has won, or to 0, from where one goes back. */
    private static void promise19WithinForty() {
        S.promise(19, "LIKELY from THE BEGINNING within n MOVES (0 .. 40)");
        SundayGame x = Check.gameOf("board 3;piece a at 0 of 2;may a up 1 when all;may a down 1 when all;"
            + "wins when a=2 and who=0;loses when a=2 and who=1;");
        x.errs(0, 100);
        x.errs(1, 100);
        int[] fromOne = new int[41];
        for (int n = 1; n <= 40; n++) {
            int back = n >= 2 ? fromOne[n - 2] : 0;
            fromOne[n] = (int) ((1000000000L + back) / 2);
            S.is("within " + n, x.likely(n), fromOne[n - 1]);
        }
        S.is("40 is more than 39", x.likely(40) > x.likely(39), true);
    }

    private static void promise19CannotBe() {
        S.promise(19, "NONE if n can't be, or without FIELDS");
        SundayGame x = Check.gameOf("board 2;stuck wins;");
        S.is("0", x.likely(0), SURE);
        S.is("40", x.likely(40), SURE);
        S.is("41", x.likely(41), NONE);
        S.is("-1", x.likely(-1), NONE);
        for (int far : FAR) {
            S.is("far", x.likely(far), NONE);
        }
        S.is("without fields", new SundayGame().likely(0), NONE);
        S.is("without fields", new SundayGame().likely(40), NONE);
    }
}
