import java.util.Arrays;

/** Promises 25 to 31, each sentence that names a boundary: kinds, Sundays, when losing pays, rings, the spring. */
public final class SundayBoundaryTest {
    private static final Sentences S = new Sentences();
    private static final int NONE = SundayGame.NONE;
    private static final int[] FAR = {Integer.MIN_VALUE, -2, Integer.MAX_VALUE};
    /** The one move there is: of 0 it loses, of 1 it wins; without these it is drawn. */
    private static final String ONE_MOVE = "board 2;piece a at 0 of 2;ever may a up 1 when all;loses when who=0;wins when who=1;"
        + "stuck draws;";
    /** Player 0 alone can move: it wins whoever begins, until the rule is struck. */
    private static final String ALONE = "board 9;piece a at 0 of 0;may a up 1 when all;";

    public static void main(String[] args) {
        promise25WhatItWas();
        promise25CannotBe();
        promise26Code();
        promise26NoneWas();
        promise26WithoutFields();
        promise26Drawn();
        promise26Parity();
        promise27Kind0();
        promise27Now();
        promise27NowNotBetter();
        promise27Fair();
        promise27OnTheNextSunday();
        promise27NoneSuch();
        promise28Below();
        promise28OnTheNextSunday();
        promise28CannotBe();
        promise29FromNowOn();
        promise29WithinTwelve();
        promise29NoneByThen();
        promise29AllStays();
        promise30AsItIsNow();
        promise30HowMany();
        promise31First();
        promise31ThenByNumber();
        promise31EndsOtherwise();
        promise31Neither();
        promise31None();
        S.finish();
    }

    // ---- promise 25

    private static void promise25WhatItWas() {
        S.promise(25, "A player is of a KIND (0 .. 2): what it was");
        SundayGame x = new SundayGame();
        for (int player = 0; player < 2; player++) {
            S.is("at first", x.kind(player, 2), 0);
            S.is("2", x.kind(player, 1), 2);
            S.is("1", x.kind(player, 0), 1);
            S.is("0", x.kind(player, 1 + player), 0);
        }
        S.is("each has its own", x.kind(0, 0), 1);
        S.is("each has its own", x.kind(1, 0), 2);
        S.is("no refusal", x.status(4), 0);
    }

    private static void promise25CannotBe() {
        S.promise(25, "NONE if it can't be");
        SundayGame x = new SundayGame();
        x.kind(0, 1);
        x.kind(1, 2);
        S.is("kind 3", x.kind(0, 3), NONE);
        S.is("kind -1", x.kind(1, -1), NONE);
        S.is("player 2", x.kind(2, 0), NONE);
        S.is("player -1", x.kind(-1, 0), NONE);
        for (int far : FAR) {
            S.is("far kind", x.kind(0, far), NONE);
            S.is("far player", x.kind(far, 0), NONE);
        }
        S.is("refusals", x.status(4), 10);
        S.is("as it was", x.kind(0, 0), 1);
        S.is("as it was", x.kind(1, 0), 2);
    }

    // ---- promises 26 and 27

    private static void promise26Code() {
        S.promise(26, "the code of the CHANGE that was made");
        SundayGame x = Check.gameOf(ONE_MOVE);
        x.kind(0, 1);
        S.is("0 has lost, and turns what is of 1 about", x.sunday(), 13);
        S.is("it is made", x.rule(2, 1), 3);
        S.is("it can be undone", x.has(6), 1);
        S.is("the next Sunday", x.has(5), 1);
        S.is("1 begins and loses", x.worth(), -1);
        SundayGame y = Check.gameOf("board 2;piece a at 0 of 2;may a up 1 when all;stuck wins;");
        y.kind(0, 2);
        y.kind(1, 1);
        S.is("1 wins by being stuck; 0 has lost and is fair, and there is nothing", y.sunday(), NONE);
        SundayGame z = Check.gameOf(ALONE);
        z.kind(1, 1);
        z.sunday();
        S.is("a change with code 0", z.sunday(), 0);
    }

    private static void promise26NoneWas() {
        S.promise(26, "NONE if none was");
        SundayGame x = Check.gameOf(ONE_MOVE);
        S.is("kind 0", x.sunday(), NONE);
        S.is("the next Sunday comes", x.has(5), 1);
        S.is("nothing was made", x.has(6), 0);
        SundayGame y = Check.gameOf("board 2;");
        y.kind(0, 1);
        y.kind(1, 2);
        S.is("without rules", y.sunday(), NONE);
        S.is("without rules", y.sunday(), NONE);
        S.is("Sunday 2", y.has(5), 2);
        SundayGame ever = Check.gameOf("board 2;piece a at 0 of 2;ever may a up 1 when all;ever wins when who=1;");
        ever.kind(0, 1);
        ever.kind(1, 1);
        S.is("ever ones alone", ever.sunday(), NONE);
    }

    private static void promise26WithoutFields() {
        S.promise(26, "-2 without FIELDS (no SUNDAY)");
        SundayGame x = new SundayGame();
        S.is("without", x.sunday(), -2);
        S.is("no Sunday", x.has(5), 0);
        x.kind(0, 1);
        S.is("without", x.sunday(), -2);
        S.is("no Sunday", x.has(5), 0);
    }

    private static void promise26Drawn() {
        S.term(26, "who has LOST by THE WORTH makes its CHANGE (nobody, if it is DRAWN)");
        SundayGame x = Check.gameOf(ONE_MOVE);
        x.kind(0, 1);
        x.kind(1, 1);
        x.make(6);
        S.is("0 goes, and it is drawn", x.worth(), 0);
        S.is("0 would change it, had it lost", x.would(0), 13);
        S.is("nobody does", x.sunday(), NONE);
        S.is("nothing was made but that", x.has(6), 1);
        SundayGame y = Check.gameOf(ONE_MOVE);
        y.kind(1, 1);
        S.is("1 has won, and would do nothing", y.sunday(), NONE);
        SundayGame z = Check.gameOf(ONE_MOVE);
        z.kind(0, 1);
        z.sunday();
        z.kind(1, 1);
        S.is("1 has lost on its Sunday; it has won as it is when 0 begins", z.sunday(), NONE);
        z.sunday();
        S.is("that has come", z.worth(), -1);
    }

    private static void promise26Parity() {
        S.term(26, "on SUNDAY s (0 at first) s modulo 2 is to move");
        SundayGame x = Check.gameOf("board 2;");
        for (int s = 0; s < 6; s++) {
            S.is("Sunday " + s, x.has(5), s);
            S.is("who begins on " + s, x.played(1), s % 2);
            x.sunday();
        }
    }

    private static void promise27Kind0() {
        S.term(27, "0 changes nothing");
        SundayGame x = Check.gameOf(ONE_MOVE);
        S.is("of 0", x.would(0), NONE);
        S.is("of 1", x.would(1), NONE);
    }

    private static void promise27Now() {
        S.term(27, "the CHANGE by which THE WORTH of the next SUNDAY's game is best for it, the least code of like ones");
        SundayGame x = Check.gameOf(ONE_MOVE);
        x.kind(0, 1);
        S.is("struck it is drawn, turned about it is won", x.would(0), 13);
        SundayGame like = Check.gameOf("board 2;piece a at 0 of 2;may a up 1 when all;ever wins when who=1;stuck draws;");
        like.kind(0, 1);
        S.is("struck, turned about, up 2, up 3: all drawn", like.would(0), 0);
        SundayGame last = Check.gameOf("board 9;piece a at 0 of 2;ever may a up 1 when all;" + "ever wins when who=1;".repeat(10)
            + "wins when who=1;");
        last.kind(0, 1);
        S.is("the last rule of twelve", last.would(0), 67);
        S.is("who begins has lost", last.worth(), -1);
    }

    private static void promise27NowNotBetter() {
        S.term(27, "nothing, if none is better than as it is");
        SundayGame x = Check.gameOf(ONE_MOVE);
        x.kind(1, 1);
        S.is("1 wins the next as it is", x.would(1), NONE);
        SundayGame drawn = Check.gameOf("board 2;wins when all;stuck draws;");
        drawn.kind(0, 1);
        drawn.kind(1, 1);
        S.is("all are drawn", drawn.would(0), NONE);
        S.is("all are drawn", drawn.would(1), NONE);
        SundayGame lost = Check.gameOf("board 2;wins when all;");
        lost.kind(1, 1);
        S.is("all are lost", lost.would(1), NONE);
    }

    private static void promise27Fair() {
        S.term(27, "2 FAIR: the first CHANGE by which that is 0, nothing, if it is so already or there is none");
        SundayGame x = Check.gameOf(ONE_MOVE);
        x.kind(0, 2);
        x.kind(1, 2);
        S.is("struck", x.would(0), 12);
        S.is("likewise of who wins", x.would(1), 12);
        x.make(12);
        S.is("it is so already", x.would(0), NONE);
        S.is("today it is not", x.worth(), -1);
        SundayGame none = Check.gameOf("board 2;piece a at 0 of 2;may a up 1 when all;wins when who=1;");
        none.kind(0, 2);
        S.is("there is none", none.would(0), NONE);
    }

    /** On Sunday 1 it is 0 who begins the next game. */
    private static void promise27OnTheNextSunday() {
        S.promise(27, "What a player, had it LOST on this SUNDAY, would do: the code");
        SundayGame x = Check.gameOf("board 2;piece a at 0 of 2;ever may a up 1 when all;loses when who=0;wins when who=1;stuck draws;");
        x.sunday();
        x.kind(0, 1);
        x.kind(1, 1);
        S.is("0 begins then: turned about it wins", x.would(0), 7);
        S.is("1 has it best already", x.would(1), NONE);
        x.kind(0, 2);
        x.kind(1, 2);
        S.is("fair is fair", x.would(0), 6);
        S.is("fair is fair", x.would(1), 6);
        x.kind(0, 1);
        x.kind(1, 1);
        x.make(7);
        S.is("now 0 has it best", x.would(0), NONE);
        S.is("now 1 turns it about", x.would(1), 7);
    }

    private static void promise27NoneSuch() {
        S.promise(27, "NONE for nothing; -2 if there is none such, or without FIELDS");
        SundayGame x = Check.gameOf(ONE_MOVE);
        S.is("nothing", x.would(0), NONE);
        S.is("player 2", x.would(2), -2);
        S.is("player -1", x.would(-1), -2);
        for (int far : FAR) {
            S.is("far", x.would(far), -2);
        }
        S.is("without fields", new SundayGame().would(0), -2);
        S.is("without fields", new SundayGame().would(1), -2);
        S.is("without rules", Check.gameOf("board 2;").would(1), NONE);
        S.is("nothing is changed", x.has(5) + x.has(6), 0);
    }

    // ---- promise 28

    private static void promise28Below() {
        S.promise(28, "1, if n and A together are below B less n, else 0");
        SundayGame x = Check.gameOf(ONE_MOVE);
        S.is("A -1, B -1, n 0", x.pays(0), 0);
        x.kind(0, 2);
        S.is("A -1, B 0, n 0", x.pays(0), 1);
        S.is("A -1, B 0, n 1", x.pays(1), 0);
        x.kind(0, 1);
        S.is("A -1, B 1, n 0", x.pays(0), 1);
        S.is("A -1, B 1, n 1: 0 is not below 0", x.pays(1), 0);
        x.kind(1, 2);
        S.is("A 0, B 1, n 0", x.pays(0), 1);
        S.is("A 0, B 1, n 1", x.pays(1), 0);
        x.kind(0, 2);
        S.is("A 0, B 0, n 0", x.pays(0), 0);
        x.kind(0, 0);
        S.is("A 0, B -1, n 0", x.pays(0), 0);
    }

    private static void promise28OnTheNextSunday() {
        S.promise(28, "A: what THE WORTH of the next SUNDAY's game is for it, when the other one has done what it would; B: when it "
            + "has itself");
        SundayGame x = Check.gameOf(ONE_MOVE);
        x.sunday();
        x.make(7);
        S.is("1 begins now, 0 wins then: A -1, B -1", x.pays(0), 0);
        x.kind(1, 1);
        S.is("A -1, B 1", x.pays(0), 1);
        S.is("A -1, B 1, n 1", x.pays(1), 0);
        x.kind(0, 2);
        S.is("A 0, B 1", x.pays(0), 1);
        x.kind(1, 2);
        S.is("A 0, B 0", x.pays(0), 0);
        x.kind(0, 0);
        S.is("A -1, B 0", x.pays(0), 1);
        x.undo();
        x.kind(0, 1);
        x.kind(1, 0);
        S.is("1 wins then as it is, but 0 turns it about: A -1, B 1", x.pays(0), 1);
        x.kind(0, 2);
        S.is("A 0, B 1", x.pays(0), 1);
        x.kind(0, 0);
        S.is("A 1, B 1", x.pays(0), 0);
    }

    private static void promise28CannotBe() {
        S.promise(28, "NONE if n can't be, or without FIELDS");
        SundayGame x = Check.gameOf(ONE_MOVE);
        x.kind(0, 1);
        S.is("0", x.pays(0), 1);
        S.is("100", x.pays(100), 0);
        S.is("101", x.pays(101), NONE);
        S.is("-1", x.pays(-1), NONE);
        for (int far : FAR) {
            S.is("far", x.pays(far), NONE);
        }
        S.is("without fields", new SundayGame().pays(0), NONE);
        S.is("without rules", Check.gameOf("board 2;").pays(0), 0);
    }

    // ---- promise 29

    /** Slate and who begins, as an image tells them. */
    private static int[] stateOf(SundayGame x) {
        int[] bytes = Check.imageOf(x);
        int sunday = bytes.length - 7;
        bytes[sunday + 1] &= 1;
        bytes[sunday] = 0;
        bytes[bytes.length - 1] = 0;
        return bytes;
    }

    /** By playing Sundays: the first that is like one ahead of it, and that one. */
    private static int[] firstLike(SundayGame x) {
        int[][] states = new int[32][];
        for (int k = 0; k < states.length; k++) {
            states[k] = stateOf(x);
            for (int j = 0; j < k; j++) {
                if (Arrays.equals(states[j], states[k])) {
                    return new int[] {k, j};
                }
            }
            x.sunday();
        }
        return new int[] {NONE, NONE};
    }

    private static void ring(String when, SundayGame x, int n, int length, int lead) {
        S.is("length, " + when + " within " + n, x.ring(n, 0), length);
        S.is("begins, " + when + " within " + n, x.ring(n, 1), lead);
    }

    private static void promise29FromNowOn() {
        S.term(29, "if a SLATE and s modulo 2 are as they were on a SUNDAY ahead (from now on)");
        SundayGame x = Check.gameOf(ALONE);
        ring("nothing changes", x, 1, NONE, NONE);
        ring("nothing changes", x, 2, 2, 0);
        x.kind(0, 1);
        x.kind(1, 1);
        ring("1 strikes on Sunday 1", x, 3, NONE, NONE);
        ring("1 strikes on Sunday 1", x, 4, 2, 2);
        x.sunday();
        ring("from Sunday 1 on", x, 2, NONE, NONE);
        ring("from Sunday 1 on", x, 3, 2, 1);
        x.sunday();
        ring("from Sunday 2 on", x, 2, 2, 0);
        SundayGame four = Check.gameOf("board 4;piece a at 2 of 2;ever may a down 2 when who=1;may a up 2 when who=0;");
        four.kind(0, 1);
        four.kind(1, 2);
        ring("of four", four, 3, NONE, NONE);
        ring("of four", four, 4, 4, 0);
        four.sunday();
        ring("of four, on the way", four, 4, 4, 0);
        int[] found = firstLike(four);
        S.is("of four, by Sundays, the one that is like", found[0], 4);
        S.is("of four, by Sundays, the one ahead", found[1], 0);
    }

    /** Rings that are found after twelve Sundays and not ahead of that. */
    private static void twelfth(String text, int kind0, int kind1, int length) {
        SundayGame x = Check.gameOf(text);
        x.kind(0, kind0);
        x.kind(1, kind1);
        ring("the twelfth", x, 11, NONE, NONE);
        ring("the twelfth", x, 12, length, 12 - length);
        int[] found = firstLike(x);
        S.is("by Sundays, the one that is like", found[0], 12);
        S.is("by Sundays, the one ahead", found[1], 12 - length);
    }

    private static void promise29WithinTwelve() {
        S.promise(29, "How long the RING is to which SUNDAYS come within n (1 .. 12) (what 0), after how many it begins (1)");
        twelfth("board 9;piece a at 1 of 2;not a down 2 when who=1;ever not a off when a=4;may a off when who=0;wins when spot=6;"
            + "may a up 2 when who=0;wins when spot=2;stuck wins;", 1, 2, 2);
        twelfth("board 5;piece a at 2 of 2;not a off when goal=5 and who=1;may a down 1 when all;wins when goal=5 and who=1;"
            + "loses when spot=0;not a off when all;wins when a>2;ever may a up 3 when who=1;stuck wins;", 2, 1, 4);
    }

    private static void promise29NoneByThen() {
        S.promise(29, "NONE if there is none by then, if it can't be, or for others");
        SundayGame x = Check.gameOf(ALONE);
        S.is("none by then", x.ring(1, 0), NONE);
        S.is("0", x.ring(0, 0), NONE);
        S.is("-1", x.ring(-1, 0), NONE);
        S.is("13", x.ring(13, 0), NONE);
        S.is("12", x.ring(12, 0), 2);
        S.is("what 2", x.ring(12, 2), NONE);
        S.is("what -1", x.ring(12, -1), NONE);
        for (int far : FAR) {
            S.is("far n", x.ring(far, 0), NONE);
            S.is("far what", x.ring(12, far), NONE);
        }
        S.is("without fields", new SundayGame().ring(12, 0), NONE);
        S.is("without fields", new SundayGame().ring(12, 1), NONE);
        S.is("without rules", Check.gameOf("board 2;").ring(2, 0), 2);
    }

    private static void promise29AllStays() {
        S.promise(29, "All stays as it is");
        SundayGame x = Check.gameOf(ALONE);
        x.kind(0, 1);
        x.kind(1, 1);
        x.make(3);
        x.move(0, 2);
        int[] before = Check.imageOf(x);
        x.ring(12, 0);
        x.ring(12, 1);
        S.is("the image", Arrays.equals(before, Check.imageOf(x)), true);
        S.is("what is played", x.played(2), 1);
        S.is("what can be undone", x.has(6), 1);
        S.is("the Sunday", x.has(5), 0);
    }

    // ---- promises 30 and 31

    private static void promise30AsItIsNow() {
        S.promise(30, "THE SLATE as it is now is kept as that of the spring");
        SundayGame x = Check.gameOf("board 9;piece a at 0 of 2;may a up 1 when all;may a up 2 when a=0;");
        x.spring();
        x.make(0);
        S.is("up 1 has gone since", x.parts(0), 0);
        x.spring();
        S.is("it is kept anew", x.parts(0), NONE);
        x.undo();
        S.is("up 1 was not there then", x.parts(0), 0);
        x.make(0);
        x.sunday();
        S.is("Sundays leave it as it is", x.parts(0), NONE);
        int[] image = Check.imageOf(x);
        x.make(0);
        Check.feed(x, image);
        S.is("an image is taken", x.on(), true);
        S.is("and leaves it as it is", x.parts(0), NONE);
        x.make(0);
        S.is("it is there still", x.parts(0), 0);
    }

    private static void promise30HowMany() {
        S.promise(30, "how many RULES it has");
        S.is("without fields", new SundayGame().spring(), 0);
        S.is("none", Check.gameOf("board 2;").spring(), 0);
        SundayGame x = Check.gameOf("board 2;" + "wins when all;".repeat(12));
        S.is("twelve", x.spring(), 12);
        x.make(0);
        S.is("struck ones are rules", x.spring(), 12);
        S.is("nothing is changed by that", x.has(6), 1);
    }

    private static void parts(String when, SundayGame x, int moves, int number) {
        S.is("moves, " + when, x.parts(0), moves);
        S.is("number, " + when, x.parts(1), number);
    }

    private static void promise31First() {
        S.promise(31, "The first POSITION, by MOVES from THE BEGINNING of this SUNDAY");
        SundayGame x = Check.gameOf("board 9;piece a at 0 of 2;may a up 1 when all;not a up 1 when a=8;not a up 1 when a=4;");
        x.spring();
        x.make(12);
        parts("at 4", x, 4, 8);
        x.sunday();
        parts("at 4, the other one being to move", x, 4, 9);
        x.undo();
        x.make(0);
        parts("at once", x, 0, 1);
        x.sunday();
        parts("at once", x, 0, 0);
        SundayGame far = Check.gameOf("board 9;piece a at 0 of 2;piece b at 0 of 2;may a up 1 when all;may b up 1 when a=8;"
            + "may b off when b=8;");
        far.spring();
        far.make(12);
        parts("behind sixteen moves", far, 16, 2 * (10 * 8 + 8));
        SundayGame nought = Check.gameOf("board 3;piece a at 1 of 2;may a down 1 when a=1;may a up 2 when a=0;may a off when a=2;");
        nought.sunday();
        nought.spring();
        nought.make(6);
        parts("the position whose number is 0", nought, 1, 0);
        nought.undo();
        nought.make(12);
        parts("behind the position whose number is 0", nought, 2, 5);
    }

    /** To 3 by up 3 first, to 1 by up 1 later: the number counts, not the way there. */
    private static void promise31ThenByNumber() {
        S.promise(31, "then by number");
        SundayGame x = Check.gameOf("board 9;piece a at 0 of 2;may a up 3 when a=0;may a up 1 when a=0;may a up 2 when a=1 or a=3;");
        x.spring();
        x.make(12);
        parts("at 1 and at 3", x, 1, 3);
        SundayGame y = Check.gameOf("board 9;piece a at 5 of 2;piece b at 0 of 2;may b up 1 when b=0;may a down 1 when a=5;"
            + "may a off when a<5 or b=1;");
        y.spring();
        y.make(12);
        parts("a at 4, or b at 1", y, 1, 2 * 10 * 4 + 1);
    }

    private static void promise31EndsOtherwise() {
        S.promise(31, "has other LAWFUL MOVES, or one ends otherwise");
        SundayGame x = Check.gameOf("board 9;piece a at 0 of 2;may a up 1 when all;wins when a=2;");
        x.spring();
        x.make(7);
        parts("a win is a loss", x, 1, 3);
        x.make(6);
        parts("a win is none", x, 1, 3);
        x.spring();
        parts("alike", x, NONE, NONE);
        x.make(6);
        parts("none is a loss", x, 1, 3);
        SundayGame y = Check.gameOf("board 9;piece a at 0 of 2;may a up 1 when all;not a up 2 when all;");
        y.spring();
        y.make(7);
        parts("one move more", y, 0, 0);
        y.spring();
        y.make(7);
        parts("one move less", y, 0, 0);
        y.undo();
        y.make(8);
        y.make(0);
        y.spring();
        y.undo();
        parts("the same moves by other rules", y, NONE, NONE);
    }

    private static void promise31Neither() {
        S.promise(31, "(LAWFUL in both, ending in neither)");
        SundayGame x = Check.gameOf("board 9;piece a at 0 of 2;may a up 1 when all;wins when a=3;may a up 2 when a=5;");
        x.spring();
        x.make(12);
        parts("it ends ahead of that in both", x, NONE, NONE);
        SundayGame y = Check.gameOf("board 9;piece a at 0 of 2;may a up 1 when a<2 or a>4;may a up 3 when a>2;");
        y.spring();
        y.make(6);
        parts("no move leads there in either", y, NONE, NONE);
    }

    private static void promise31None() {
        S.promise(31, "NONE if they are alike, none is kept, without FIELDS, or for others");
        SundayGame x = Check.gameOf(ALONE);
        x.make(0);
        parts("none is kept", x, NONE, NONE);
        x.spring();
        parts("alike", x, NONE, NONE);
        x.undo();
        parts("not alike", x, 0, 0);
        S.is("what 2", x.parts(2), NONE);
        S.is("what -1", x.parts(-1), NONE);
        for (int far : FAR) {
            S.is("far", x.parts(far), NONE);
        }
        SundayGame y = new SundayGame();
        parts("without fields", y, NONE, NONE);
        y.spring();
        parts("without fields, kept", y, NONE, NONE);
        Check.feed(y, ALONE);
        y.game();
        y.make(0);
        parts("what was kept without fields went", y, NONE, NONE);
    }
}
