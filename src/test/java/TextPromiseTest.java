/** Promises 1 to 8: the tape, the text and its faults, and what it tells. */
public final class TextPromiseTest {
    private static final String HEAD = "board 5;piece fox at 1 of 0;piece hen at 3 of 2;";
    private static final Check CHECK = new Check();

    public static void main(String[] args) {
        newObject();
        tape();
        gamesThatAre();
        firstFaults();
        faultsOfNames();
        faultsOfNumbers();
        faultsOfCounts();
        faultsKeepAll();
        has();
        letters();
        rules();
        sums();
        CHECK.finish();
    }

    private static void newObject() {
        SundayGame x = new SundayGame();
        for (int what = 0; what <= 7; what++) {
            CHECK.is("promise 1: has " + what, x.has(what), 0);
        }
        CHECK.is("promise 1: fault 0", x.fault(0), 0);
        CHECK.is("promise 1: fault 1", x.fault(1), -1);
        CHECK.is("promise 1: worth", x.worth(), -2);
        CHECK.is("promise 1: value", x.value(0, 0), -2);
        CHECK.is("promise 1: lawful", x.lawful(0, -1), -1);
        CHECK.is("promise 1: played", x.played(0), -1);
        CHECK.is("promise 1: hat", x.hat(), -1);
        CHECK.is("promise 1: longest", x.longest(), -1);
        CHECK.is("promise 1: likely", x.likely(3), -1);
        CHECK.is("promise 1: change", x.change(-1), 0);
        CHECK.is("promise 1: outcome", x.outcome(0), -2);
        CHECK.is("promise 1: turning", x.turning(0), -1);
        CHECK.is("promise 1: sunday", x.sunday(), -2);
        CHECK.is("promise 1: would", x.would(0), -2);
        CHECK.is("promise 1: pays", x.pays(0), -1);
        CHECK.is("promise 1: ring", x.ring(3, 0), -1);
        CHECK.is("promise 1: spring", x.spring(), 0);
        CHECK.is("promise 1: parts", x.parts(0), -1);
        CHECK.is("promise 1: anew", x.anew(), 0);
        CHECK.is("promise 1: row of nothing", x.row(), -1);
        CHECK.is("promise 1: octet", x.octet(0), -1);
        CHECK.is("promise 1: on", x.on(), false);
        CHECK.is("promise 1: no Sunday has come", x.has(5), 0);
    }

    private static void tape() {
        SundayGame x = new SundayGame();
        for (int i = 1; i <= 90; i++) {
            CHECK.is("promise 2: feed", x.feed(0, 0, 0, 0, 0), 20 * i);
        }
        CHECK.is("promise 2: full", x.feed(1, 1, 1, 1, 1), -1);
        CHECK.is("promise 35: refused feed", x.status(0), 1);
        CHECK.is("promise 3: more than there are", x.end(1801), false);
        CHECK.is("promise 3: below 0", x.end(-1), false);
        CHECK.is("promise 35: refused end", x.status(0), 3);
        CHECK.is("promise 3: all", x.end(1800), true);
        CHECK.is("promise 3: fewer", x.end(1781), true);
        CHECK.is("promise 2: no room for twenty", x.feed(1, 1, 1, 1, 1), -1);
        CHECK.is("promise 3: room for twenty", x.end(1780), true);
        CHECK.is("promise 2: the last twenty", x.feed(1, 1, 1, 1, 1), 1800);
        CHECK.is("promise 3: none", x.end(0), true);
        Check.feed(x, "board 3;stuck draws;");
        CHECK.is("promise 2: the highest byte first", x.game(), 2);
        CHECK.is("promise 4: the tape goes", x.end(1), false);
    }

    private static void good(String text, int statements) {
        SundayGame x = new SundayGame();
        Check.feed(x, text);
        CHECK.is("promise 4: " + text, x.game(), statements);
        CHECK.is("promise 5: kind of " + text, x.fault(0), 0);
        CHECK.is("promise 5: place of " + text, x.fault(1), -1);
        CHECK.is("promise 5: other", x.fault(2), -1);
        CHECK.is("promise 5: other", x.fault(-1), -1);
    }

    private static void bad(String text, int kind, int place) {
        SundayGame x = new SundayGame();
        Check.feed(x, text);
        CHECK.is("promise 4: " + text, x.game(), -1);
        CHECK.is("promise 5: kind of " + text, x.fault(0), kind);
        CHECK.is("promise 5: place of " + text, x.fault(1), place);
        CHECK.is("promise 35: " + text, x.status(1), 1);
        CHECK.is("promise 4: nothing comes of " + text, x.has(0), 0);
    }

    /** The mark ^ stands ahead of the byte where the fault is; it is no part of the text. */
    private static void badAt(String marked, int kind) {
        bad(marked.replace("^", ""), kind, marked.indexOf('^'));
    }

    private static void gamesThatAre() {
        good("board 2;", 1);
        good(" \n board\n9 ; ", 1);
        good("board 0009;", 1);
        good("board 5;stuck loses;stuck draws;stuck wins;", 4);
        good(HEAD, 3);
        good(HEAD + "may fox up 1 when all;ever not fox off when fox=hen;wins when all;ever loses when all;", 7);
        good(HEAD + "may fox up 1 when[fox<1]and not(fox+1)*2>hen or all;", 4);
        good(HEAD + "may fox up 1 when min(fox,hen)=max(1,(spot-goal)/who%2);", 4);
        good(HEAD + "wins when not not not not fox=1;", 4);
        good(HEAD + "wins when [[[[[[[[all]]]]]]]];", 4);
        good(HEAD + "wins when [[[[((((1))))=1]]]];", 4);
        good(HEAD + "wins when [all] and [all] and [all] and [all] and [all] and [all] and [all] and [all] and [all];",
            4);
        good("board 5;wins when all;piece abcdef at 4 of 1;may abcdef down 3 when abcdef=9999;", 4);
        StringBuilder rules = new StringBuilder("board 5;");
        for (int i = 0; i < 12; i++) {
            rules.append("wins when all;");
        }
        good(rules.toString(), 13);
        StringBuilder nots = new StringBuilder("board 5;wins when ");
        for (int i = 0; i < 440; i++) {
            nots.append("not ");
        }
        good(nots + "all;", 2);
    }

    private static void firstFaults() {
        bad("", 1, 0);
        bad("  \n", 1, 3);
        bad("board", 1, 5);
        bad("board 5", 1, 7);
        bad("board 5 ", 1, 8);
        badAt("^boa", 1);
        badAt("^piece a at 1 of 0;", 1);
        badAt("board^5;", 1);
        badAt("board 5^a;", 1);
        badAt("board 5;^board 5;", 1);
        badAt("board 5;^;", 1);
        badAt("board 5;^ho;", 1);
        badAt("board 5;^5;", 1);
        badAt("board 5;boards^s;", 1);
        badAt("board 1234^5;", 1);
        badAt("board 5 abcdef^g;", 1);
        badAt("board 5;1234^5", 1);
        badAt("board^\t5;", 1);
        badAt("board 5;^A", 1);
        badAt("board 5;^\u00e9", 1);
        badAt("board 5;ever ^stuck wins;", 1);
        badAt("board 5;ever ^ever wins when all;", 1);
        badAt("board 5;stuck ^off;", 1);
        badAt("board 5;stuck ^5;", 1);
        badAt(HEAD + "may fox up 1 ^all;", 1);
        badAt(HEAD + "may fox ^over 1 when all;", 1);
        badAt(HEAD + "may fox off ^1 when all;", 1);
        badAt(HEAD + "wins ^fox up 1 when all;", 1);
        badAt(HEAD + "wins when fox^;", 1);
        badAt(HEAD + "wins when fox=1 ^fox;", 1);
        badAt(HEAD + "wins when fox=1 ^cow;", 1);
        badAt(HEAD + "wins when (fox^=1);", 1);
        badAt(HEAD + "wins when [fox^];", 1);
        badAt(HEAD + "wins when fox=1^];", 1);
        badAt(HEAD + "wins when fox=^-1;", 1);
        badAt(HEAD + "wins when fox=1^=1;", 1);
        badAt(HEAD + "wins when fox=3^or fox=1;", 1);
        badAt(HEAD + "wins when fox=^all;", 1);
        badAt(HEAD + "wins when min(fox^);", 1);
        badAt(HEAD + "wins when min ^fox=1;", 1);
        badAt(HEAD + "wins when all or^;", 1);
        bad(HEAD + "wins when all", 1, HEAD.length() + 13);
    }

    private static void faultsOfNames() {
        badAt("board 5;piece ^min at 1 of 0;", 1);
        badAt("board 5;piece ^3 at 1 of 0;", 1);
        badAt("board 5;piece fox at 1 of 0;piece ^fox at 1 of 0;", 2);
        badAt(HEAD + "may ^when up 1 when all;", 1);
        badAt(HEAD + "may ^cow up 1 when all;", 3);
        badAt("board 5;wins when ^fox=1;piece fox at 1 of 0;", 3);
        badAt(HEAD + "wins when ^cow=1;", 3);
        badAt(HEAD + "wins when fox+^cow=1;", 3);
        badAt(HEAD + "wins when not ^cow=1;", 3);
        badAt(HEAD + "wins when fox=^board;", 1);
    }

    private static void faultsOfNumbers() {
        badAt("board ^1;", 4);
        badAt("board ^10;", 4);
        badAt("board ^0;!", 4);
        badAt("board 5;piece fox at ^5 of 0;", 4);
        badAt("board 5;piece fox at 4 of ^3;", 4);
        badAt(HEAD + "may fox up ^0 when all;", 4);
        badAt(HEAD + "may fox down ^4 when all;", 4);
        badAt(HEAD + "may fox down ^4a when all;", 4);
    }

    private static void faultsOfCounts() {
        badAt(HEAD + "^piece cow at 1 of 0;", 5);
        badAt(HEAD + "^piece", 5);
        StringBuilder rules = new StringBuilder(HEAD);
        for (int i = 0; i < 12; i++) {
            rules.append("wins when all;");
        }
        badAt(rules + "^may fox up 1 when all;", 5);
        badAt(rules + "^ever loses when all;", 5);
        good(rules + "stuck wins;", 16);
        badAt(HEAD + "wins when [[[[[[[[^[all]]]]]]]]];", 5);
        badAt(HEAD + "wins when [[[[((((^(1)))))=1]]]];", 5);
        badAt(HEAD + "wins when [[[[((((min^(1,2)))))=1]]]];", 5);
        badAt(HEAD + "wins when ((((((((1^[", 1);
    }

    private static void faultsKeepAll() {
        SundayGame x = Check.gameOf(HEAD + "may fox up 1 when all;");
        x.make(0);
        x.errs(1, 7);
        x.kind(0, 2);
        x.sunday();
        Check.feed(x, "board 1;");
        CHECK.is("promise 4: a fault", x.game(), -1);
        CHECK.is("promise 4: the tape went", x.end(1), false);
        CHECK.is("promise 4: fields stay", x.has(0), 5);
        CHECK.is("promise 4: struck stay", x.has(3), 1);
        CHECK.is("promise 4: Sunday stays", x.has(5), 1);
        CHECK.is("promise 4: changes stay", x.has(6), 1);
        x.spring();
        Check.feed(x, HEAD + "may fox up 1 when all;");
        CHECK.is("promise 4: anew", x.game(), 4);
        CHECK.is("promise 5: anew", x.fault(0), 0);
        CHECK.is("promise 4: nothing struck", x.has(3), 0);
        CHECK.is("promise 4: Sunday 0", x.has(5), 0);
        CHECK.is("promise 4: no changes", x.has(6), 0);
        CHECK.is("promise 4: errs are 0", x.errs(1, 0), 0);
        CHECK.is("promise 4: kinds are 0", x.kind(0, 0), 0);
        x.make(0);
        CHECK.is("promise 4: no spring", x.parts(0), -1);
        CHECK.is("promise 4: refusals stay", x.status(1), 1);
    }

    private static void has() {
        SundayGame x = Check.gameOf(HEAD + "stuck draws;wins when all;loses when all;stuck wins;");
        int[] due = {5, 2, 2, 0, 72, 0, 0, 2, -1};
        for (int what = 0; what <= 8; what++) {
            CHECK.is("promise 6: has " + what, x.has(what), due[what]);
        }
        CHECK.is("promise 6: other", x.has(-1), -1);
        x.make(0);
        x.sunday();
        CHECK.is("promise 6: struck", x.has(3), 1);
        CHECK.is("promise 6: Sunday", x.has(5), 1);
        CHECK.is("promise 6: changes", x.has(6), 1);
        CHECK.is("promise 6: no piece, two positions", Check.gameOf("board 9;").has(4), 2);
        CHECK.is("promise 6: one piece", Check.gameOf("board 9;piece a at 0 of 0;").has(4), 20);
        CHECK.is("promise 6: stuck draws", Check.gameOf("board 9;stuck draws;").has(7), 1);
        CHECK.is("promise 6: stuck loses", Check.gameOf("board 9;stuck draws;stuck loses;").has(7), 0);
    }

    private static void letters() {
        SundayGame x = Check.gameOf("board 5;piece azbycx at 1 of 0;piece q at 3 of 2;");
        for (int k = 0; k < 6; k++) {
            CHECK.is("promise 7: letter " + k, x.letter(0, k), "azbycx".charAt(k));
        }
        CHECK.is("promise 7: letter of the second", x.letter(1, 0), 'q');
        CHECK.is("promise 7: behind it", x.letter(1, 1), -1);
        CHECK.is("promise 7: a 7th", x.letter(0, 6), -1);
        CHECK.is("promise 7: below 0", x.letter(0, -1), -1);
        CHECK.is("promise 7: no piece", x.letter(2, 0), -1);
        CHECK.is("promise 7: no piece", x.letter(-1, 0), -1);
        CHECK.is("promise 7: far away", x.letter(0, Integer.MAX_VALUE), -1);
    }

    private static void rules() {
        SundayGame x = Check.gameOf(HEAD + "may hen down 3 when all;ever not fox off when all;wins when all;"
            + "loses when all;");
        int[][] due = {{0, 0, 1, 1, 3, 0, 0, -1}, {1, 1, 0, 2, 0, 0, 1, -1}, {2, 2, -1, -1, 0, 0, 0, -1},
            {3, 3, -1, -1, 0, 0, 0, -1}};
        for (int place = 0; place < 4; place++) {
            for (int what = 0; what < 8; what++) {
                CHECK.is("promise 8: rule " + place + " " + what, x.rule(place, what), due[place][what]);
            }
        }
        CHECK.is("promise 8: no place", x.rule(4, 0), -1);
        CHECK.is("promise 8: no place", x.rule(-1, 0), -1);
        CHECK.is("promise 8: other", x.rule(0, -1), -1);
        x.make(1);
        x.make(12);
        x.make(17);
        CHECK.is("promise 8: turned about", x.rule(0, 1), 1);
        CHECK.is("promise 8: changed places", x.rule(2, 0), 3);
        CHECK.is("promise 8: struck", x.rule(3, 5), 1);
        x.make(13);
        CHECK.is("promise 8: loses is wins", x.rule(2, 1), 2);
    }

    /** What a sum is shows in whether a rule wins at once. */
    private static void sum(String sum, int due) {
        SundayGame x = Check.gameOf("board 5;piece fox at 1 of 2;may fox up 2 when all;wins when " + sum + "="
            + (due < 0 ? "0-" + -due : due) + ";stuck draws;");
        CHECK.is("term I: " + sum, x.worth(), 1);
    }

    private static void fact(String fact, boolean due) {
        SundayGame x = Check.gameOf("board 5;piece fox at 1 of 2;may fox up 2 when all;wins when " + fact
            + ";stuck draws;");
        CHECK.is("term I: " + fact, x.worth(), due ? 1 : 0);
    }

    private static void sums() {
        sum("spot", 1);
        sum("goal", 3);
        sum("fox", 3);
        sum("who", 0);
        sum("7-2-1", 4);
        sum("7-(2-1)", 6);
        sum("2+3*4", 14);
        sum("100/7/2", 7);
        sum("17%10%4", 3);
        sum("2*7/3", 4);
        sum("(0-7)/2", -4);
        sum("(0-7)%2", 1);
        sum("7/(0-2)", -4);
        sum("7%(0-2)", -1);
        sum("(0-6)/3", -2);
        sum("7/0", 0);
        sum("7%0", 0);
        sum("(0-7)%0", 0);
        sum("min(3,2)+max(3,2)*10", 32);
        sum("9999*9999/1000", 1000);
        sum("(0-9999)*9999/1000", -1000);
        sum("(9999*9999+1)/1000", 1000);
        sum("(9999*9999-1)/1000", 999);
        sum("(0-9999*9999-1)/1000", -1000);
        fact("1000*1000=1000*1000+1", true);
        fact("999*1001<1000*1000", true);
        fact("not 1=1", false);
        fact("not not 1=1", true);
        fact("1=1 or 1=1 and 1=2", true);
        fact("[1=1 or 1=1] and 1=2", false);
        fact("not 1=1 or 1=1", true);
        fact("not [1=1 or 1=1]", false);
        fact("not 1=2 and not 1=2", true);
        fact("1>1 or 1<1", false);
        fact("2>1 and 1<2", true);
        fact("all", true);
        fact("not all", false);
    }
}
