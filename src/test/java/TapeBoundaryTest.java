/** Promises 1 to 5, each sentence that names a boundary: a new object, the tape, the game and its fault. */
public final class TapeBoundaryTest {
    private static final Sentences S = new Sentences();
    private static final int NONE = SundayGame.NONE;
    private static final String STEPS = "board 5;piece a at 0 of 2;may a up 1 when all;";

    public static void main(String[] args) {
        promise1NoFields();
        promise1NothingCanBeAsked();
        promise2HowMany();
        promise2BehindThose();
        promise2HighestFirst();
        promise2MoreThan1800();
        promise2RefusedDoesNothing();
        promise3FirstBytesAlone();
        promise3NotSoMany();
        promise3BelowZero();
        promise4Statements();
        promise4TapeGoes();
        promise4FaultLeavesAll();
        promise4WithoutStatement();
        promise4SundayZero();
        promise4ErrsAndKinds();
        promise4NoChanges();
        promise4NoSpring();
        promise4RefusalsStay();
        promise4NothingOfTheOldGame();
        promise4NothingOfTheOldTests();
        promise4NothingOfTheOldSundays();
        promise4NothingOfTheFaultyText();
        promise5Latest();
        promise5AheadOfAny();
        promise5OtherWhat();
        S.finish();
    }

    private static int feed20(SundayGame x, String twenty) {
        int[] n = new int[5];
        for (int i = 0; i < 20; i++) {
            n[i / 4] = n[i / 4] << 8 | twenty.charAt(i);
        }
        return x.feed(n[0], n[1], n[2], n[3], n[4]);
    }

    private static int blanks(SundayGame x) {
        return feed20(x, " ".repeat(20));
    }

    // ---- promise 1

    private static void promise1NoFields() {
        S.promise(1, "No FIELDS, no RULES.");
        SundayGame x = new SundayGame();
        S.is("fields", x.has(0), 0);
        S.is("pieces", x.has(1), 0);
        S.is("rules", x.has(2), 0);
        S.is("struck", x.has(3), 0);
        S.is("a rule", x.rule(0, 0), NONE);
        S.is("a letter", x.letter(0, 0), NONE);
        S.is("a change", x.change(NONE), 0);
        S.is("the first change", x.change(0), NONE);
        S.is("the tape is empty", x.end(1), false);
        S.is("there is no image", x.octet(0), NONE);
    }

    /** Far away arguments on an object that has nothing. */
    private static void promise1NothingCanBeAsked() {
        S.promise(1, "No FIELDS, no RULES.");
        int[] odd = {Integer.MIN_VALUE, -2, -1, 0, 1, 2, 9, 12, 72, Integer.MAX_VALUE};
        SundayGame x = new SundayGame();
        for (int n : odd) {
            S.is("rule " + n, x.rule(n, 0), NONE);
            S.is("letter " + n, x.letter(n, 0), NONE);
            S.is("lawful " + n, x.lawful(n, NONE), NONE);
            S.is("played " + n, x.played(n), NONE);
            S.is("move " + n, x.move(n, n), false);
            S.is("value " + n, x.value(n, 0), -2);
            S.is("likely " + n, x.likely(n), NONE);
            S.is("outcome " + n, x.outcome(n), -2);
            S.is("turning " + n, x.turning(n), NONE);
            S.is("make " + n, x.make(n), false);
            S.is("would " + n, x.would(n), -2);
            S.is("pays " + n, x.pays(n), NONE);
            S.is("ring " + n, x.ring(n, 0), NONE);
            S.is("parts " + n, x.parts(n), NONE);
        }
    }

    // ---- promise 2

    private static void promise2HowMany() {
        S.promise(2, "how many there are");
        SundayGame x = new SundayGame();
        S.is("the first twenty", x.feed(0, 0, 0, 0, 0), 20);
        S.is("the next twenty", x.feed(-1, -1, -1, -1, -1), 40);
        x.end(7);
        S.is("behind seven", x.feed(Integer.MIN_VALUE, Integer.MAX_VALUE, 0, 0, 0), 27);
    }

    private static void promise2BehindThose() {
        S.promise(2, "Twenty bytes come behind those on the tape");
        SundayGame x = new SundayGame();
        feed20(x, "board 3;stuck draws;");
        feed20(x, "stuck wins;stuck los");
        feed20(x, "es;                 ");
        S.is("statements", x.game(), 4);
        S.is("the last one counts", x.has(7), 0);
    }

    private static void rowOf(SundayGame x, int number, int due) {
        x.feed(number, 0, 0, 0, 0);
        x.end(4);
        S.is("row of " + Integer.toHexString(number), x.row(), due);
    }

    private static void promise2HighestFirst() {
        S.promise(2, "of each number the highest first");
        SundayGame x = Check.gameOf(STEPS);
        rowOf(x, 0x01020304, NONE);
        rowOf(x, 0x04030201, 0);
        rowOf(x, 0x01020403, 2);
        rowOf(x, 0x01028003, 2);
        rowOf(x, 0xff020304, 0);
        x.feed(0, 0, 0, 0, 0x01020304);
        S.is("the fifth number is the last one", x.row(), 0);
    }

    private static void promise2MoreThan1800() {
        S.promise(2, "NONE, doing nothing, if there would be more than 1800");
        SundayGame x = new SundayGame();
        for (int i = 1; i <= 90; i++) {
            S.is("so many", blanks(x), 20 * i);
        }
        S.is("1820", blanks(x), NONE);
        S.is("the refusal", x.status(0), 1);
        x.end(1781);
        S.is("1801", blanks(x), NONE);
        x.end(1780);
        S.is("1800", blanks(x), 1800);
        S.is("two refusals", x.status(0), 2);
    }

    private static void promise2RefusedDoesNothing() {
        S.promise(2, "doing nothing");
        SundayGame x = new SundayGame();
        feed20(x, "board 3;stuck draws;");
        for (int i = 0; i < 89; i++) {
            blanks(x);
        }
        x.end(1795);
        S.is("refused", feed20(x, "stuck wins;stuck win"), NONE);
        S.is("there are as many as before", x.end(1796), false);
        S.is("the text is as before", x.game(), 2);
        S.is("what it tells is as before", x.has(7), 1);
    }

    // ---- promise 3

    private static void promise3FirstBytesAlone() {
        S.promise(3, "The tape has its first n bytes alone: true");
        SundayGame x = new SundayGame();
        S.is("none of none", x.end(0), true);
        feed20(x, "board 3;stuck draws;");
        S.is("all", x.end(20), true);
        S.is("eight", x.end(8), true);
        S.is("the others went", x.end(9), false);
        feed20(x, "stuck wins;         ");
        S.is("the next come behind the eight", x.game(), 2);
        S.is("they tell", x.has(7), 2);
        feed20(x, "board 3;stuck draws;");
        S.is("none", x.end(0), true);
        S.is("nothing is there", x.game(), NONE);
        S.is("nothing is there", x.fault(1), 0);
        S.is("no refusal but that", x.status(0), 1);
    }

    private static void promise3NotSoMany() {
        S.promise(3, "false, doing nothing, if it has not so many");
        SundayGame x = new SundayGame();
        S.is("one of none", x.end(1), false);
        feed20(x, "board 3;stuck draws;");
        S.is("one more", x.end(21), false);
        S.is("many more", x.end(Integer.MAX_VALUE), false);
        S.is("the refusals", x.status(0), 3);
        S.is("nothing was done", x.game(), 2);
    }

    private static void promise3BelowZero() {
        S.promise(3, "or n is below 0");
        SundayGame x = new SundayGame();
        S.is("of none", x.end(-1), false);
        feed20(x, "board 3;stuck draws;");
        S.is("-1", x.end(-1), false);
        S.is("far below", x.end(Integer.MIN_VALUE), false);
        S.is("the refusals", x.status(0), 3);
        S.is("nothing was done", x.game(), 2);
    }

    // ---- promise 4

    private static void promise4Statements() {
        S.promise(4, "how many STATEMENTS");
        SundayGame x = new SundayGame();
        Check.feed(x, "board 2;");
        S.is("one", x.game(), 1);
        Check.feed(x, "board 2;" + "stuck wins;".repeat(162) + " ".repeat(10));
        S.is("as many as there is room for", x.game(), 163);
        Check.feed(x, "board 2;" + "stuck wins;".repeat(162) + " ".repeat(9) + "!");
        S.is("the last byte is read", x.game(), NONE);
        S.is("the last byte is at fault", x.fault(1), 1799);
    }

    private static void promise4TapeGoes() {
        S.promise(4, "The tape (it goes) is THE GAME");
        SundayGame x = new SundayGame();
        feed20(x, "board 3;stuck draws;");
        x.game();
        S.is("without a fault", x.end(1), false);
        feed20(x, "board 1;stuck draws;");
        x.game();
        S.is("with a fault", x.end(1), false);
        S.is("what comes is the first", feed20(x, "board 3;stuck draws;"), 20);
        S.is("and is read alone", x.game(), 2);
        S.is("nothing is there then", x.game(), NONE);
    }

    private static void promise4FaultLeavesAll() {
        S.promise(4, "NONE with a FAULT (all stays");
        SundayGame x = Check.gameOf("board 5;piece fox at 1 of 2;may fox up 1 when all;may fox up 2 when all;stuck draws;");
        x.sunday();
        x.spring();
        x.make(0);
        x.errs(0, 11);
        x.errs(1, 12);
        x.kind(0, 1);
        x.kind(1, 2);
        x.move(0, 3);
        x.image();
        Check.feed(x, "board 9;piece hen at 8 of 1;piece cow at 8 of 1;wins when all;stuck wins;stuck");
        S.is("a fault", x.game(), NONE);
        int[] has = {5, 1, 2, 1, 12, 1, 1, 1};
        for (int what = 0; what < has.length; what++) {
            S.is("has " + what, x.has(what), has[what]);
        }
        S.is("name", x.letter(0, 0), 'f');
        S.is("rule", x.rule(1, 1), 0);
        S.is("played", x.played(0), 6);
        S.is("moves so far", x.played(2), 1);
        S.is("lawful", x.lawful(6, NONE), 0);
        S.is("spring", x.parts(1), 3);
        S.is("image", x.octet(0), 2);
        S.is("errs of 0", x.errs(0, 0), 11);
        S.is("errs of 1", x.errs(1, 0), 12);
        S.is("kind of 0", x.kind(0, 0), 1);
        S.is("kind of 1", x.kind(1, 0), 2);
        S.is("the change can be undone", x.undo(), true);
    }

    private static void withoutStatement(String text) {
        SundayGame x = new SundayGame();
        Check.feed(x, text);
        S.is("of " + text.length() + " bytes", x.game(), NONE);
        S.is("fault of " + text.length() + " bytes", x.fault(0), 1);
        S.is("place of " + text.length() + " bytes", x.fault(1), text.length());
    }

    private static void promise4WithoutStatement() {
        S.promise(4, "one without a STATEMENT has FAULT 1 at its length");
        withoutStatement("");
        withoutStatement(" ");
        withoutStatement("\n\n \n");
        withoutStatement(" ".repeat(1800));
    }

    /** A game of which everything that a new one begins with has been changed. */
    private static SundayGame changedAll() {
        SundayGame x = Check.gameOf(STEPS);
        x.sunday();
        x.spring();
        x.make(3);
        x.make(0);
        x.errs(0, 7);
        x.errs(1, 8);
        x.kind(0, 2);
        x.kind(1, 1);
        Check.feed(x, STEPS);
        return x;
    }

    private static void promise4SundayZero() {
        S.promise(4, "Without one it is SUNDAY 0");
        SundayGame x = changedAll();
        S.is("it was Sunday 1", x.has(5), 1);
        x.game();
        S.is("it is Sunday 0", x.has(5), 0);
        S.is("player 0 begins", x.played(1), 0);
    }

    private static void promise4ErrsAndKinds() {
        S.promise(4, "ERRS and KINDS are 0");
        SundayGame x = changedAll();
        x.game();
        S.is("errs of 0", x.errs(0, 1), 0);
        S.is("errs of 1", x.errs(1, 1), 0);
        S.is("kind of 0", x.kind(0, 1), 0);
        S.is("kind of 1", x.kind(1, 1), 0);
    }

    private static void promise4NoChanges() {
        S.promise(4, "nothing is kept of CHANGES");
        SundayGame x = changedAll();
        S.is("there were some", x.has(6), 2);
        x.game();
        S.is("how many", x.has(6), 0);
        S.is("undo", x.undo(), false);
        S.is("nothing is struck", x.has(3), 0);
        S.is("N is as told", x.rule(0, 4), 1);
    }

    private static void promise4NoSpring() {
        S.promise(4, "nothing is kept of CHANGES or the spring");
        SundayGame x = changedAll();
        S.is("there was one", x.parts(0), 0);
        x.game();
        x.make(0);
        S.is("there is none", x.parts(0), NONE);
        S.is("there is none", x.parts(1), NONE);
    }

    private static void promise4RefusalsStay() {
        S.promise(4, "REFUSALS stay");
        SundayGame x = new SundayGame();
        x.end(-1);
        x.game();
        x.move(0, 0);
        x.make(0);
        x.errs(0, -1);
        x.on();
        Check.feed(x, STEPS);
        x.game();
        for (int what = 0; what <= 5; what++) {
            S.is("without a fault, " + what, x.status(what), 1);
        }
        x.game();
        for (int what = 0; what <= 5; what++) {
            S.is("with a fault, " + what, x.status(what), what == 1 ? 2 : 1);
        }
    }

    /** Slates of like numbers, of which one wins and the other one loses. */
    private static void promise4NothingOfTheOldGame() {
        S.promise(4, "The tape (it goes) is THE GAME");
        String head = "board 4;piece a at 0 of 2;piece b at 3 of 2;may a up 1 when a=0;";
        SundayGame x = Check.gameOf(head + "wins when a=1;stuck wins;");
        for (int i = 0; i < 4; i++) {
            Check.feed(x, head + "loses when a=1;stuck wins;");
            S.is("loses, statements", x.game(), 6);
            S.is("loses, worth", x.worth(), -1);
            S.is("loses, outcome of the last turned about", x.outcome(7), 1);
            S.is("loses, ring", x.ring(2, 0), 2);
            S.is("loses, kind of the rule", x.rule(1, 1), 3);
            Check.feed(x, head + "wins when a=1;");
            S.is("wins, statements", x.game(), 5);
            S.is("wins, worth", x.worth(), 1);
            S.is("wins, outcome of the last turned about", x.outcome(7), -1);
            S.is("wins, what stuck does", x.has(7), 0);
            Check.feed(x, "board 4;piece a at 3 of 2;may a down 3 when a=3;wins when a=0;may a off when all;");
            S.is("another, statements", x.game(), 5);
            S.is("another, positions", x.has(4), 10);
            S.is("another, moves", x.lawful(6, SundayGame.NONE), 2);
            S.is("another, N of wins", x.rule(1, 4), 0);
            S.is("another, N of off", x.rule(2, 4), 0);
            Check.feed(x, "board 4;wins when not all;piece a at 3 of 2;may a off when all;may a down 2 when not all;");
            S.is("a last one, statements", x.game(), 5);
            S.is("a last one, moves", x.lawful(6, SundayGame.NONE), 1);
            S.is("a last one, N of wins", x.rule(0, 4), 0);
            S.is("a last one, N of off", x.rule(1, 4), 0);
        }
    }

    /** Each text twice, and as often again, as there may be more than one place where a game is held. */
    private static void promise4NothingOfTheOldTests() {
        S.promise(4, "The tape (it goes) is THE GAME");
        SundayGame x = new SundayGame();
        for (int i = 0; i < 12; i++) {
            int field = i / 2 % 3;
            Check.feed(x, "board 4;piece a at 0 of 2;may a up 1 when a=" + field + ";wins when a=" + (field + 1) + ";stuck draws;");
            x.game();
            for (int at = 0; at < 3; at++) {
                S.is("moves of " + at, x.lawful(2 * at, SundayGame.NONE), at == field ? 1 : 0);
                S.is("worth of " + at, x.value(2 * at, 0), at == field ? 1 : 0);
            }
            S.is("the worth", x.worth(), field == 0 ? 1 : 0);
        }
    }

    private static void promise4NothingOfTheOldSundays() {
        S.promise(4, "The tape (it goes) is THE GAME");
        SundayGame x = new SundayGame();
        for (int i = 0; i < 3; i++) {
            Check.feed(x, "board 3;piece a at 0 of 2;ever may a up 1 when all;wins when who=0;loses when a=0;");
            x.game();
            x.kind(0, 1);
            x.kind(1, 1);
            S.is("a ring at once", x.ring(12, 1), 0);
            Check.feed(x, "board 3;piece a at 1 of 2;ever may a up 1 when who=1;wins when who=1;wins when a=1;");
            x.game();
            x.kind(0, 1);
            x.kind(1, 1);
            S.is("a ring after one Sunday", x.ring(12, 1), 1);
        }
    }

    private static void promise4NothingOfTheFaultyText() {
        S.promise(4, "NONE with a FAULT (all stays");
        String head = "board 9;piece a at 0 of 2;piece b at 3 of 2;";
        SundayGame x = new SundayGame();
        for (int i = 0; i < 4; i++) {
            Check.feed(x, head + "wins when all;".repeat(12) + "stuck wins;!");
            S.is("of twelve rules and two pieces", x.game(), NONE);
            Check.feed(x, head + "wins when all;".repeat(12));
            S.is("twelve rules and two pieces anew", x.game(), 15);
            S.is("stuck loses without", x.has(7), 0);
            Check.feed(x, head + "wins when " + "[".repeat(8));
            S.is("of eight open brackets", x.game(), NONE);
            Check.feed(x, head + "wins when " + "[".repeat(8) + "all" + "]".repeat(8) + ";");
            S.is("eight open brackets anew", x.game(), 4);
        }
    }

    // ---- promise 5

    private static void promise5Latest() {
        S.promise(5, "Of the latest game(): its FAULT (what 0; 0 without");
        SundayGame x = Check.gameOf(STEPS);
        S.is("without", x.fault(0), 0);
        S.is("place without", x.fault(1), NONE);
        Check.feed(x, "board 1;");
        x.game();
        S.is("with one", x.fault(0), 4);
        S.is("place with one", x.fault(1), 6);
        x.feed(0, 0, 0, 0, 0);
        x.row();
        x.on();
        S.is("of the latest game still", x.fault(0), 4);
        Check.feed(x, "board 3; hen");
        x.game();
        S.is("another one", x.fault(0), 1);
        S.is("place of another one", x.fault(1), 9);
        Check.feed(x, STEPS);
        x.game();
        S.is("without again", x.fault(0), 0);
        S.is("place without again", x.fault(1), NONE);
    }

    private static void promise5AheadOfAny() {
        S.promise(5, "0 without, and ahead of any), its place (1; NONE without)");
        SundayGame x = new SundayGame();
        S.is("fault", x.fault(0), 0);
        S.is("place", x.fault(1), NONE);
    }

    private static void promise5OtherWhat() {
        S.promise(5, "NONE for another what");
        SundayGame x = new SundayGame();
        S.is("2 ahead of any", x.fault(2), NONE);
        Check.feed(x, "board 1;");
        x.game();
        int[] others = {Integer.MIN_VALUE, -1, 2, 3, Integer.MAX_VALUE};
        for (int what : others) {
            S.is("what " + what, x.fault(what), NONE);
        }
    }
}
