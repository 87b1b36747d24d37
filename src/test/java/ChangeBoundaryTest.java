/** Promises 20 to 24, each sentence that names a boundary: which changes there can be, what they make, undoing them. */
public final class ChangeBoundaryTest {
    private static final Sentences S = new Sentences();
    private static final int NONE = SundayGame.NONE;
    private static final int[] FAR = {Integer.MIN_VALUE, -2, 72, Integer.MAX_VALUE};
    /** Who begins loses; each of its changes but that of places turns it about. */
    private static final String TAKE = "board 4;piece a at 0 of 2;may a up 1 when all;may a up 2 when all;";

    public static void main(String[] args) {
        promise20HowMany();
        promise20PutBack();
        promise20AnotherN();
        promise20NextPlace();
        promise20Ever();
        promise20NoneSuch();
        promise21NoneSuch();
        promise21WereItMade();
        promise22TurnAbout();
        promise22AsItIs();
        promise22FewestWords();
        promise22WordsOfAChange();
        promise22Others();
        promise23Made();
        promise23NoneSuch();
        promise24Latest();
        promise24EachAsItWas();
        promise24SundayStays();
        promise24FortyAreKept();
        promise24WithoutOne();
        S.finish();
    }

    private static void codes(String when, SundayGame x, int... codes) {
        S.is("how many, " + when, x.change(NONE), codes.length);
        for (int k = 0; k < codes.length; k++) {
            S.is(k + ", " + when, x.change(k), codes[k]);
        }
        S.is("one more, " + when, x.change(codes.length), NONE);
    }

    // ---- promise 20

    private static void promise20HowMany() {
        S.promise(20, "How many CHANGES there can be (k NONE), or the code of the k-th");
        codes("of each kind", Check.gameOf("board 5;piece a at 0 of 2;may a up 1 when all;may a up 2 when all;not a down 3 when all;"
            + "may a off when all;wins when all;loses when all;"), 0, 1, 3, 4, 5, 6, 7, 8, 10, 11, 12, 13, 14, 15, 17, 18, 19, 23,
            24, 25, 29, 30, 31);
        SundayGame most = Check.gameOf("board 5;piece a at 0 of 2;" + "may a up 1 when all;".repeat(12));
        S.is("the most", most.change(NONE), 59);
        S.is("the last of the most", most.change(58), 70);
        S.is("behind the last of the most", most.change(59), NONE);
        codes("without rules", Check.gameOf("board 5;"));
        codes("without fields", new SundayGame());
    }

    private static void promise20PutBack() {
        S.term(20, "0 the RULE there is struck (put back, if it is struck); 1 turned about");
        SundayGame x = Check.gameOf("board 5;piece a at 0 of 2;may a up 1 when all;");
        codes("as told", x, 0, 1, 3, 4);
        x.make(0);
        codes("struck", x, 0, 1, 3, 4);
        S.is("struck", x.rule(0, 5), 1);
        x.make(3);
        x.make(1);
        S.is("struck still", x.rule(0, 5), 1);
        S.is("N of a struck one", x.rule(0, 4), 2);
        S.is("a struck one turned about", x.rule(0, 1), 1);
        x.make(0);
        S.is("put back", x.rule(0, 5), 0);
        S.is("turned about still", x.rule(0, 1), 1);
    }

    private static void promise20AnotherN() {
        S.term(20, "2, 3, 4 its N becomes 1, 2, 3 (of up and down, another one than it is)");
        SundayGame x = Check.gameOf("board 5;piece a at 0 of 2;may a up 1 when all;");
        codes("N is 1", x, 0, 1, 3, 4);
        x.make(3);
        codes("N is 2", x, 0, 1, 2, 4);
        x.make(4);
        codes("N is 3", x, 0, 1, 2, 3);
        x.make(2);
        codes("N is 1 again", x, 0, 1, 3, 4);
        x.make(0);
        x.make(1);
        codes("struck and turned about", x, 0, 1, 3, 4);
        codes("down", Check.gameOf("board 5;piece a at 0 of 2;not a down 2 when all;"), 0, 1, 2, 4);
        codes("off has none", Check.gameOf("board 5;piece a at 0 of 2;may a off when all;"), 0, 1);
        codes("wins has none", Check.gameOf("board 5;wins when all;"), 0, 1);
        codes("loses has none", Check.gameOf("board 5;loses when all;"), 0, 1);
    }

    private static void promise20NextPlace() {
        S.term(20, "5 it and that in the next PLACE change PLACES");
        SundayGame x = Check.gameOf("board 5;wins when all;loses when all;");
        codes("the last one has no next", x, 0, 1, 5, 6, 7);
        x.make(0);
        x.make(7);
        x.make(5);
        S.is("the first is the second", x.rule(1, 0), 0);
        S.is("it is struck there", x.rule(1, 5), 1);
        S.is("the second is the first", x.rule(0, 0), 1);
        S.is("it is turned about there", x.rule(0, 1), 2);
        S.is("it is not struck there", x.rule(0, 5), 0);
    }

    private static void promise20Ever() {
        S.term(20, "None of an ever RULE.");
        codes("ever ones between", Check.gameOf("board 5;piece a at 0 of 2;ever may a up 1 when all;may a up 2 when all;"
            + "ever wins when all;may a off when all;loses when all;"), 6, 7, 8, 10, 18, 19, 23, 24, 25);
        codes("an ever one first", Check.gameOf("board 5;ever wins when all;wins when all;"), 6, 7);
        codes("an ever one last", Check.gameOf("board 5;wins when all;ever wins when all;"), 0, 1);
        codes("ever ones alone", Check.gameOf("board 5;ever wins when all;ever wins when all;"));
    }

    private static void promise20NoneSuch() {
        S.promise(20, "NONE if there is none such");
        SundayGame x = Check.gameOf("board 5;wins when all;");
        S.is("the last", x.change(1), 1);
        S.is("behind the last", x.change(2), NONE);
        for (int far : FAR) {
            S.is("far", x.change(far), NONE);
        }
    }

    // ---- promises 21 and 22

    private static void promise21NoneSuch() {
        S.promise(21, "-2 if there is none such, or without FIELDS");
        SundayGame x = Check.gameOf(TAKE + "ever wins when not all;");
        S.is("-1", x.outcome(-1), -2);
        S.is("N is that already", x.outcome(2), -2);
        S.is("the next is an ever one", x.outcome(11), -2);
        S.is("an ever one struck", x.outcome(12), -2);
        S.is("an ever one turned about", x.outcome(13), -2);
        S.is("the last one with the next", x.outcome(17), -2);
        S.is("behind all", x.outcome(18), -2);
        for (int far : FAR) {
            S.is("far", x.outcome(far), -2);
        }
        S.is("without fields", new SundayGame().outcome(0), -2);
        S.is("without rules", Check.gameOf("board 2;").outcome(0), -2);
        S.is("no refusal", x.status(3), 0);
    }

    private static void promise21WereItMade() {
        S.promise(21, "THE WORTH on this SUNDAY, were a CHANGE made");
        SundayGame x = Check.gameOf("board 3;piece a at 0 of 0;may a up 1 when all;");
        x.move(0, 1);
        S.is("struck, 0 is stuck", x.outcome(0), -1);
        S.is("up 2", x.outcome(3), 1);
        S.is("up 3 is no move", x.outcome(4), -1);
        S.is("nothing is struck", x.has(3), 0);
        S.is("nothing can be undone", x.has(6), 0);
        S.is("it is played on", x.played(2), 1);
        S.is("the worth is as it was", x.worth(), 1);
        x.sunday();
        S.is("on Sunday 1 1 is stuck in any case", x.outcome(0), -1);
    }

    private static void promise22TurnAbout() {
        S.promise(22, "How many CHANGES turn THE WORTH about (from 1 to -1 or back: what 0)");
        S.is("from -1", Check.gameOf(TAKE).turning(0), 8);
        SundayGame x = Check.gameOf("board 2;piece a at 0 of 2;ever may a up 1 when all;wins when all;stuck draws;");
        S.is("from 1; struck it is drawn", x.turning(0), 1);
        x.make(6);
        S.is("from 0 nothing turns about", x.turning(0), 0);
        S.is("without rules", Check.gameOf("board 2;").turning(0), 0);
    }

    private static void promise22AsItIs() {
        S.promise(22, "leave it as it is (1)");
        S.is("places alone", Check.gameOf(TAKE).turning(1), 1);
        S.is("of drawn ones all", Check.gameOf("board 2;wins when all;loses when all;stuck draws;").turning(1), 5);
        SundayGame x = Check.gameOf("board 2;piece a at 0 of 2;ever may a up 1 when all;wins when all;stuck draws;");
        S.is("none: about, or drawn", x.turning(1), 0);
        S.is("without rules", Check.gameOf("board 2;").turning(1), 0);
    }

    /** By places alone the second speaks where the third did, and the third elsewhere still. */
    private static void promise22FewestWords() {
        S.promise(22, "that with the fewest WORDS that turns it about, the least code (2; NONE without)");
        S.is("the least code", Check.gameOf(TAKE).turning(2), 0);
        SundayGame x = Check.gameOf("board 3;piece a at 0 of 2;ever may a up 1 when all;may a up 1 when a=0 and goal=1;"
            + "not a up 1 when all;");
        S.is("one change", x.turning(0), 1);
        S.is("of two words, if there is no other", x.turning(2), 11);
        SundayGame y = Check.gameOf("board 2;piece a at 0 of 2;ever may a up 1 when all;wins when all;loses when all;stuck draws;");
        S.is("three changes", y.turning(0), 3);
        S.is("of two words it turns about", y.outcome(11), 1);
        S.is("of one word, with a greater code", y.turning(2), 12);
        S.is("without", Check.gameOf("board 2;wins when all;stuck draws;").turning(2), NONE);
        S.is("without rules", Check.gameOf("board 2;").turning(2), NONE);
    }

    /** Three of like words: the least code; two words come behind all of one. */
    private static void promise22WordsOfAChange() {
        S.term(22, "WORDS of a CHANGE: 1 of 0 to 4, 2 of 5.");
        SundayGame x = Check.gameOf("board 3;piece a at 0 of 2;ever may a up 1 when all;may a up 1 when a=0 and goal=1;"
            + "not a up 1 when all;may a up 3 when a=0 and goal=2;");
        S.is("places of the second and the third", x.outcome(11), 1);
        S.is("N of the last is 2", x.outcome(21), 1);
        S.is("no other", x.turning(0), 2);
        S.is("that of one word", x.turning(2), 21);
    }

    private static void promise22Others() {
        S.promise(22, "NONE for others, or without FIELDS");
        SundayGame x = Check.gameOf(TAKE);
        S.is("3", x.turning(3), NONE);
        S.is("-1", x.turning(-1), NONE);
        for (int far : FAR) {
            S.is("far", x.turning(far), NONE);
        }
        for (int what = 0; what < 3; what++) {
            S.is("without fields", new SundayGame().turning(what), NONE);
        }
    }

    // ---- promises 23 and 24

    private static void promise23Made() {
        S.promise(23, "A CHANGE is made: true");
        SundayGame x = Check.gameOf(TAKE);
        S.is("struck", x.make(0), true);
        S.is("struck", x.rule(0, 5), 1);
        S.is("put back", x.make(0), true);
        S.is("put back", x.rule(0, 5), 0);
        S.is("turned about", x.make(7), true);
        S.is("turned about", x.rule(1, 1), 1);
        S.is("turned back", x.make(7), true);
        S.is("turned back", x.rule(1, 1), 0);
        S.is("N", x.make(10), true);
        S.is("N", x.rule(1, 4), 3);
        S.is("N of the other one", x.rule(0, 4), 1);
        S.is("places", x.make(5), true);
        S.is("places", x.rule(0, 4), 3);
        S.is("no refusal", x.status(3), 0);
    }

    private static void promise23NoneSuch() {
        S.promise(23, "false if there is none such");
        SundayGame x = Check.gameOf(TAKE + "ever wins when not all;");
        int[] codes = {-1, 2, 9, 11, 12, 13, 14, 15, 16, 17, 18};
        for (int code : codes) {
            S.is("code " + code, x.make(code), false);
        }
        for (int far : FAR) {
            S.is("far", x.make(far), false);
        }
        S.is("refusals", x.status(3), codes.length + FAR.length);
        S.is("nothing was made", x.has(6), 0);
        S.is("nothing is struck", x.has(3), 0);
        S.is("N of the first", x.rule(0, 4), 1);
        S.is("N of the second", x.rule(1, 4), 2);
        S.is("without fields", new SundayGame().make(0), false);
    }

    private static void promise24Latest() {
        S.promise(24, "The latest CHANGE (by make(), sunday()) is undone");
        SundayGame x = Check.gameOf(TAKE);
        x.make(0);
        x.make(3);
        x.make(5);
        x.make(1);
        S.is("turned about", x.rule(0, 1), 1);
        S.is("undone", x.undo(), true);
        S.is("turned back", x.rule(0, 1), 0);
        S.is("the places are as made", x.rule(0, 0), 1);
        x.undo();
        S.is("the places are as told", x.rule(0, 0), 0);
        S.is("both places are as told", x.rule(1, 0), 1);
        S.is("N is as made", x.rule(0, 4), 2);
        x.undo();
        S.is("N is as told", x.rule(0, 4), 1);
        S.is("it is struck still", x.rule(0, 5), 1);
        x.undo();
        S.is("put back", x.rule(0, 5), 0);
        S.is("none is left", x.has(6), 0);
    }

    /** The last byte of an image tells slates that are near one another apart. */
    private static int sealOf(SundayGame x) {
        return x.octet(x.image() - 1);
    }

    private static void promise24EachAsItWas() {
        S.promise(24, "The latest CHANGE (by make(), sunday()) is undone");
        SundayGame x = Check.gameOf("board 5;piece a at 0 of 2;may a up 1 when all;not a down 2 when all;wins when a=4;");
        int[] codes = {0, 7, 5, 12, 11, 1, 13, 6};
        int[] seals = new int[45];
        for (int i = 0; i < seals.length; i++) {
            seals[i] = sealOf(x);
            S.is("made " + i, x.make(codes[i % codes.length]), true);
            S.is("another one " + i, sealOf(x) != seals[i], true);
        }
        for (int i = seals.length - 1; i >= seals.length - 40; i--) {
            S.is("undone " + i, x.undo(), true);
            S.is("as it was ahead of " + i, sealOf(x), seals[i]);
        }
        S.is("the others are not kept", x.undo(), false);
    }

    private static void promise24SundayStays() {
        S.promise(24, "the SUNDAY stays");
        SundayGame x = Check.gameOf("board 3;piece a at 0 of 0;may a up 1 when all;");
        x.kind(1, 1);
        x.make(3);
        x.make(2);
        x.sunday();
        S.is("on Sunday 1 player 1 has lost and strikes", x.sunday(), 0);
        S.is("three changes", x.has(6), 3);
        S.is("the last one undone", x.undo(), true);
        S.is("put back", x.has(3), 0);
        S.is("Sunday 2", x.has(5), 2);
        S.is("that ahead of the Sundays undone", x.undo(), true);
        S.is("N as made first", x.rule(0, 4), 2);
        S.is("Sunday 2 still", x.has(5), 2);
        S.is("player 0 begins", x.played(1), 0);
    }

    private static void promise24FortyAreKept() {
        S.promise(24, "(40 are kept, the oldest go)");
        SundayGame x = Check.gameOf("board 3;wins when all;loses when all;");
        x.make(6);
        for (int i = 0; i < 39; i++) {
            x.make(i % 2);
        }
        S.is("forty", x.has(6), 40);
        x.make(1);
        S.is("forty still", x.has(6), 40);
        for (int i = 0; i < 40; i++) {
            S.is("undone " + i, x.undo(), true);
        }
        S.is("the oldest went", x.undo(), false);
        S.is("what it did stays", x.rule(1, 5), 1);
        S.is("all others are undone, struck", x.rule(0, 5), 0);
        S.is("all others are undone, turned about", x.rule(0, 1), 2);
    }

    private static void promise24WithoutOne() {
        S.promise(24, "false without one");
        SundayGame x = Check.gameOf("board 3;wins when all;");
        S.is("at first", x.undo(), false);
        x.sunday();
        S.is("a Sunday without a change", x.undo(), false);
        x.make(0);
        x.make(9);
        S.is("one", x.undo(), true);
        S.is("none more", x.undo(), false);
        S.is("refusals of undo and of make", x.status(3), 4);
        S.is("without fields", new SundayGame().undo(), false);
    }
}
