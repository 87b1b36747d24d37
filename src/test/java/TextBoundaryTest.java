/** The terms of the text, which promises 4 and 5 are about: each sentence that names a boundary. */
public final class TextBoundaryTest {
    private static final Sentences S = new Sentences();
    private static final String HEAD = "board 5;piece fox at 1 of 0;piece hen at 3 of 2;";
    private static final String[] OWN = {"board", "piece", "at", "of", "ever", "stuck", "loses", "draws", "wins", "may",
        "not", "up", "down", "off", "when", "or", "and", "all", "spot", "goal", "who", "min", "max"};

    public static void main(String[] args) {
        promise4Statements();
        promise4FullTape();
        promise4Words();
        promise4Numbers();
        promise4Blanks();
        promise4SideBySide();
        promise4Fields();
        promise4BoardFirst();
        promise4BoardAlone();
        promise4WhereItBegins();
        promise4WhoseItIs();
        promise4TwoPieces();
        promise4TwelveRules();
        promise4LastStuckCounts();
        promise4Steps();
        promise4Rules();
        promise4OwnWords();
        promise4UnlikeNames();
        promise4ToldAhead();
        promise4TestForms();
        promise4Facts();
        promise5FirstAlongTheText();
        promise5NoGameGoesOn();
        promise5WholeAtFirstByte();
        promise5EndsTooSoon();
        promise5SeventhLetter();
        promise5FifthDigit();
        promise5OwnWordForName();
        promise5UnknownWordInTest();
        promise5NameTwice();
        promise5NoPiece();
        promise5NoSuchNumber();
        promise5OneTooMany();
        promise5TooManyWithEver();
        promise5NinthBracket();
        S.finish();
    }

    private static SundayGame good(String text, int statements) {
        SundayGame x = new SundayGame();
        Check.feed(x, text);
        S.is(text, x.game(), statements);
        S.is("fault of " + text, x.fault(0), 0);
        S.is("place of " + text, x.fault(1), SundayGame.NONE);
        return x;
    }

    private static void bad(String text, int kind, int place) {
        SundayGame x = new SundayGame();
        Check.feed(x, text);
        S.is(text, x.game(), SundayGame.NONE);
        S.is("fault of " + text, x.fault(0), kind);
        S.is("place of " + text, x.fault(1), place);
    }

    /** The mark ^ stands ahead of the byte where the fault is; it is no part of the text. */
    private static void badAt(String marked, int kind) {
        bad(marked.replace("^", ""), kind, marked.indexOf('^'));
    }

    private static String rules(int count) {
        return HEAD + "wins when all;".repeat(count);
    }

    // ---- the text

    private static void promise4Statements() {
        S.term(4, "{ STATEMENT ; }");
        good("board 5;stuck wins;", 2);
        badAt("board 5;^;", 1);
        badAt("board 5;^;stuck wins;", 1);
        badAt("board 5 ^stuck wins;", 1);
        badAt("board 5;stuck wins ^stuck wins;", 1);
        badAt("board 5;stuck wins^,", 1);
        bad("board 5;stuck wins", 1, 18);
    }

    /** The longest sum that there is room for. */
    private static void promise4FullTape() {
        S.term(4, "THE GAME is a text");
        String head = "board 3;piece a at 0 of 2;may a up 1 when all;stuck draws;wins when ";
        String sum = "1" + "+1".repeat((1800 - head.length() - 6) / 2);
        int ones = (sum.length() + 1) / 2;
        String text = head + sum + "=" + ones + ";";
        text += " ".repeat(1800 - text.length());
        S.is("it wins", good(text, 5).worth(), 1);
        S.is("it does not", good(text.replace("=" + ones, "=" + (ones - 1)), 5).worth(), 0);
        badAt(text.substring(0, 1799) + "^!", 1);
    }

    private static void promise4Words() {
        S.term(4, "WORDS (1 to 6 letters a .. z)");
        SundayGame x = good("board 5;piece a at 0 of 0;piece azmnby at 0 of 0;wins when a=azmnby;", 4);
        S.is("a letter", x.letter(0, 0), 'a');
        S.is("the sixth letter", x.letter(1, 5), 'y');
        good("board 5;piece z at 0 of 0;", 2);
        badAt("board 5;piece ^` at 0 of 0;", 1);
        badAt("board 5;piece ^{ at 0 of 0;", 1);
        badAt("board 5;piece ^A at 0 of 0;", 1);
        badAt("board 5;piece ^Z at 0 of 0;", 1);
        badAt("board 5;piece a^A at 0 of 0;", 1);
        badAt("board 5;piece ^_ at 0 of 0;", 1);
        badAt("board 5;piece ^\u00e1 at 0 of 0;", 1);
        badAt("^Board 5;", 1);
    }

    private static void promise4Numbers() {
        S.term(4, "NUMBERS (1 to 4 digits)");
        good(HEAD + "wins when 0=9999;", 4);
        good("board 0005;piece fox at 0004 of 0002;may fox up 0003 when all;", 3);
        good(HEAD + "wins when 0000=0009;", 4);
        badAt("board ^:;", 1);
        badAt("board ^-5;", 1);
        badAt("board ^+5;", 1);
        badAt("board 5^.;", 1);
        badAt(HEAD + "wins when 1=^;", 1);
    }

    private static void promise4Blanks() {
        S.term(4, "blanks (10, 32) between where one likes");
        good("\n  board\n 5 \n;\n\npiece fox\nat 1 of 2 ; \n", 2);
        good("board 5;piece fox at 1 of 2;may fox up 1 when\n[ not fox < min ( 1 , 2 ) ] and ( 1 + 2 ) = 3 ;", 3);
        good("board 5;piece fox at 1 of 2;may fox up 1 when[not fox<min(1,2)]and(1+2)=3;", 3);
        int[] others = {0, 1, 9, 11, 12, 13, 31, 33, 127, 128, 160, 255};
        for (int other : others) {
            badAt("board^" + (char) other + "5;", 1);
            badAt("^" + (char) other + "board 5;", 1);
            badAt("board 5;^" + (char) other, 1);
        }
    }

    private static void promise4SideBySide() {
        S.term(4, "(WORDS and NUMBERS side by side need one)");
        badAt("board^5;", 1);
        badAt("board 5;piece fox^1 at 1 of 0;", 1);
        badAt("board 5;piece fox at 1^of 0;", 1);
        badAt(HEAD + "may fox up^1 when all;", 1);
        badAt(HEAD + "may fox up 1^when all;", 1);
        badAt(HEAD + "wins when fox=1^or all;", 1);
        badAt(HEAD + "wins when^1=1;", 1);
        badAt("board 5;piece fox ^atat 1 of 0;", 1);
        badAt("board 5;piece fox at 1 ^1 of 0;", 1);
        badAt("board 5;^stuckw;", 1);
        good("board\n5;stuck\nwins;", 2);
    }

    private static void promise4Fields() {
        S.term(4, "board N (FIELDS, 2 .. 9;");
        S.is("2", good("board 2;", 1).has(0), 2);
        S.is("9", good("board 9;", 1).has(0), 9);
        badAt("board ^1;", 4);
        badAt("board ^0;", 4);
        badAt("board ^10;", 4);
        badAt("board ^9999;", 4);
    }

    private static void promise4BoardFirst() {
        S.term(4, "the first STATEMENT");
        badAt("^stuck wins;board 5;", 1);
        badAt("^wins when all;board 5;", 1);
        badAt("^piece fox at 1 of 0;board 5;", 1);
        badAt("^;board 5;", 1);
        badAt("^ever board 5;", 1);
    }

    private static void promise4BoardAlone() {
        S.term(4, "the first STATEMENT, and it alone");
        badAt("board 5;^board 5;", 1);
        badAt("board 5;stuck wins;^board 6;", 1);
    }

    private static void promise4WhereItBegins() {
        S.term(4, "the FIELD where it begins");
        S.is("0", good("board 2;piece a at 0 of 0;", 2).played(0), 0);
        S.is("1 of 2", good("board 2;piece a at 1 of 0;", 2).played(0), 2);
        S.is("8 of 9", good("board 9;piece a at 8 of 0;", 2).played(0), 16);
        badAt("board 2;piece a at ^2 of 0;", 4);
        badAt("board 9;piece a at ^9 of 0;", 4);
        badAt("board 9;piece a at 0 of 0;piece b at ^9999 of 0;", 4);
    }

    private static void promise4WhoseItIs() {
        S.term(4, "whose it is: 0, 1, or 2: of both");
        for (int owner = 0; owner <= 2; owner++) {
            SundayGame x = good("board 2;piece a at 0 of " + owner + ";may a up 1 when all;", 3);
            S.is("player 0 may, of " + owner, x.lawful(0, SundayGame.NONE), owner == 1 ? 0 : 1);
            S.is("player 1 may, of " + owner, x.lawful(1, SundayGame.NONE), owner == 0 ? 0 : 1);
        }
        badAt("board 2;piece a at 0 of ^3;", 4);
        badAt("board 2;piece a at 0 of ^10;", 4);
    }

    private static void promise4TwoPieces() {
        S.term(4, "2 PIECES");
        S.is("none", good("board 5;", 1).has(1), 0);
        S.is("two", good(HEAD, 3).has(1), 2);
        badAt(HEAD + "^piece cow at 1 of 0;", 5);
        badAt(HEAD + "stuck wins;wins when all;^piece cow at 1 of 0;", 5);
    }

    private static void promise4TwelveRules() {
        S.term(4, "RULE, or ever RULE (12 RULES)");
        S.is("none", good(rules(0), 3).has(2), 0);
        S.is("twelve", good(rules(12), 15).has(2), 12);
        S.is("eleven and one with ever", good(rules(11) + "ever may fox off when all;", 15).has(2), 12);
        S.is("others come behind twelve", good(rules(12) + "stuck wins;", 16).has(7), 2);
        badAt(rules(12) + "^wins when all;", 5);
    }

    private static void promise4LastStuckCounts() {
        S.term(4, "(the last one counts; loses without)");
        S.is("without", good("board 5;", 1).has(7), 0);
        S.is("draws", good("board 5;stuck draws;", 2).has(7), 1);
        S.is("wins behind draws", good("board 5;stuck draws;stuck wins;", 3).has(7), 2);
        S.is("loses behind wins", good("board 5;stuck wins;wins when all;stuck loses;", 4).has(7), 0);
        SundayGame x = Check.gameOf("board 5;stuck wins;");
        Check.feed(x, "board 5;");
        x.game();
        S.is("without, behind a game with it", x.has(7), 0);
    }

    private static void promise4Steps() {
        S.term(4, "MOVE: NAME up N, NAME down N (a PIECE, 1 .. 3), NAME off.");
        for (int n = 1; n <= 3; n++) {
            S.is("up " + n, good(HEAD + "may fox up " + n + " when all;", 4).rule(0, 4), n);
            S.is("down " + n, good(HEAD + "not fox down " + n + " when all;", 4).rule(0, 4), n);
        }
        S.is("off", good(HEAD + "may fox off when all;", 4).rule(0, 4), 0);
        badAt(HEAD + "may fox up ^0 when all;", 4);
        badAt(HEAD + "may fox up ^4 when all;", 4);
        badAt(HEAD + "not fox down ^0 when all;", 4);
        badAt(HEAD + "not fox down ^4 when all;", 4);
        badAt(HEAD + "may fox off ^1 when all;", 1);
        badAt(HEAD + "may fox up ^when all;", 1);
        badAt(HEAD + "may fox ^1 when all;", 1);
    }

    private static void promise4Rules() {
        S.term(4, "RULE: may MOVE when TEST; not MOVE when TEST; wins when TEST; loses when TEST.");
        good(HEAD + "may fox up 1 when all;not fox off when all;wins when all;loses when all;", 7);
        good(HEAD + "ever may fox up 1 when all;ever not fox off when all;ever wins when all;ever loses when all;", 7);
        badAt(HEAD + "may fox ^when all;", 1);
        badAt(HEAD + "may ^when all;", 1);
        badAt(HEAD + "may fox up 1^;", 1);
        badAt(HEAD + "may fox off ^all;", 1);
        badAt(HEAD + "wins^;", 1);
        badAt(HEAD + "wins ^all;", 1);
        badAt(HEAD + "loses ^fox off when all;", 1);
        badAt(HEAD + "ever^;", 1);
        badAt(HEAD + "ever ^fox;", 1);
        badAt(HEAD + "ever ^stuck wins;", 1);
        badAt(HEAD + "ever ^piece fox at 0 of 0;", 1);
        badAt(HEAD + "ever ^ever wins when all;", 1);
        badAt(HEAD + "^draws when all;", 1);
        badAt(HEAD + "stuck ^may;", 1);
        badAt(HEAD + "stuck^;", 1);
        badAt(HEAD + "stuck wins ^when all;", 1);
    }

    private static void promise4OwnWords() {
        S.term(4, "OWN WORDS, which no NAME is");
        for (String word : OWN) {
            badAt("board 5;piece ^" + word + " at 1 of 0;", 1);
            String near = word + "x";
            good("board 5;piece " + near + " at 1 of 0;may " + near + " up 1 when " + near + "=1;", 3);
        }
        good("board 5;piece boar at 1 of 0;piece al at 1 of 0;wins when boar=al;", 4);
    }

    private static void promise4UnlikeNames() {
        S.term(4, "NAMES are unlike ones");
        badAt("board 5;piece fox at 1 of 0;piece ^fox at 2 of 1;", 2);
        SundayGame x = good("board 5;piece fox at 1 of 2;piece foxy at 2 of 2;may foxy up 1 when foxy=2;may fox up 1 when fox=1;",
            5);
        S.is("of the second", x.rule(0, 2), 1);
        S.is("of the first", x.rule(1, 2), 0);
        S.is("both may", x.lawful(x.played(0), SundayGame.NONE), 2);
    }

    private static void promise4ToldAhead() {
        S.term(4, "each told ahead of where it is asked");
        good("board 5;piece fox at 1 of 0;may fox up 1 when fox=1;piece hen at 1 of 0;may hen up 1 when hen=fox;", 5);
        badAt("board 5;may ^fox up 1 when all;piece fox at 1 of 0;", 3);
        badAt("board 5;piece fox at 1 of 0;may fox up 1 when ^hen=1;piece hen at 1 of 0;", 3);
    }

    private static void promise4Facts() {
        S.term(4, "FACT: not FACT; [ TEST ] ; all;");
        good(HEAD + "wins when not not not all;", 4);
        good(HEAD + "wins when not [not [not all]];", 4);
        good(HEAD + "wins when not 1=1 and not 2=2 or not 3=3;", 4);
        good(HEAD + "wins when all and all or all and all;", 4);
        badAt(HEAD + "wins when all ^not all;", 1);
        badAt(HEAD + "wins when all ^all;", 1);
        badAt(HEAD + "wins when all or ^or all;", 1);
        badAt(HEAD + "wins when all and not ^and all;", 1);
        badAt(HEAD + "wins when [all] ^[all];", 1);
    }

    private static void promise4TestForms() {
        S.term(4, "TEST: BOTH { or BOTH }.");
        badAt(HEAD + "wins when ^;", 1);
        badAt(HEAD + "wins when [^];", 1);
        badAt(HEAD + "wins when (^)=1;", 1);
        badAt(HEAD + "wins when ^or all;", 1);
        badAt(HEAD + "wins when all and ^and all;", 1);
        badAt(HEAD + "wins when not^;", 1);
        badAt(HEAD + "wins when 1+^=1;", 1);
        badAt(HEAD + "wins when 1*^*1=1;", 1);
        badAt(HEAD + "wins when ^+1=1;", 1);
        badAt(HEAD + "wins when 1<^=1;", 1);
        badAt(HEAD + "wins when 1<2^<3;", 1);
        badAt(HEAD + "wins when all^=1;", 1);
        badAt(HEAD + "wins when (^all)=1;", 1);
        badAt(HEAD + "wins when (1^=1);", 1);
        badAt(HEAD + "wins when [1^]=1;", 1);
        badAt(HEAD + "wins when [all^);", 1);
        badAt(HEAD + "wins when (1^]=1;", 1);
        badAt(HEAD + "wins when min(1,2^,3)=1;", 1);
        badAt(HEAD + "wins when max(1^)=1;", 1);
        badAt(HEAD + "wins when max(^,1)=1;", 1);
        badAt(HEAD + "wins when 1^,1=1;", 1);
        badAt(HEAD + "wins when not not ^;", 1);
    }

    // ---- faults

    private static void promise5FirstAlongTheText() {
        S.term(5, "FAULTS, the first along the text");
        badAt("board ^1;piece min at 9 of 9;", 4);
        badAt("board 5 ^5;board 1;", 1);
        badAt("board 5;piece fox at ^5 of 3;", 4);
        badAt("board 5;piece fox at 4 of ^3;!", 4);
        badAt(HEAD + "^piece fox at 9 of 9;", 5);
        badAt(HEAD + "may ^cow up 9 when all;", 3);
        badAt(HEAD + "may fox up ^9 when cow=1;", 4);
        badAt(HEAD + "wins when ^cow=1 dog=1;", 3);
        badAt(rules(12) + "^may cow up 9 when all;", 5);
        badAt("board 5;piece fox at 1 of 0;piece ^fox at 9 of 9;", 2);
    }

    private static void promise5NoGameGoesOn() {
        S.term(5, "1 the first byte with which no GAME goes on");
        badAt("^5", 1);
        badAt("^;", 1);
        badAt("board ^;", 1);
        badAt("board ^board 5;", 1);
        badAt("board 5^,", 1);
        badAt("board 5;^(", 1);
        badAt("board 5;piece ^;", 1);
        badAt("board 5;piece fox ^1 of 0;", 1);
        badAt("board 5;piece fox at ^fox of 0;", 1);
        badAt("board 5;piece fox at 1 ^at 0;", 1);
        badAt("board 5;piece fox at 1 of ^fox;", 1);
        badAt("board 5;piece fox at 1 of 0 ^0;", 1);
        badAt(HEAD + "may ^up 1 when all;", 1);
        badAt(HEAD + "may fox ^fox up 1 when all;", 1);
        badAt(HEAD + "may fox up ^fox when all;", 1);
        badAt(HEAD + "wins when 1 ^1;", 1);
        badAt(HEAD + "wins when 1=1 ^1;", 1);
        badAt(HEAD + "wins when fox ^hen;", 1);
        badAt(HEAD + "wins when fox ^and hen;", 1);
        badAt(HEAD + "wins when 1=1^);", 1);
        badAt(HEAD + "wins when spot^(1);", 1);
    }

    private static void promise5WholeAtFirstByte() {
        S.term(5, "(WORDS, NUMBERS whole, at their first byte;");
        badAt("^boar 5;", 1);
        badAt("^boards 5;", 1);
        badAt("^bo", 1);
        badAt("board 5;^pieces fox at 1 of 0;", 1);
        badAt("board 5;^pie", 1);
        badAt("board 5;piece fox ^ate 1 of 0;", 1);
        badAt("board 5 ^55;", 1);
        badAt("board 5;^1234;", 1);
        badAt("board 5;stuck ^losess;", 1);
        badAt(HEAD + "may fox up 1 ^whe", 1);
    }

    /** With blanks between all, each row of first ones that is no game ends too soon. */
    private static void promise5EndsTooSoon() {
        S.term(5, "at the text's length, if it ends too soon");
        String[] parts = ("board 5 ; piece fox at 1 of 0 ; ever may fox up 1 when not [ min ( fox + 1 , 2 ) = 2 or all ] and "
            + "1 * 2 / 3 % 4 - 5 < ( spot ) ; stuck wins ;").split(" ");
        StringBuilder text = new StringBuilder();
        int statements = 0;
        for (String part : parts) {
            text.append(part);
            if (part.equals(";")) {
                statements++;
                good(text.toString(), statements);
                good(text + " \n", statements);
            } else {
                bad(text.toString(), 1, text.length());
                bad(text + " \n", 1, text.length() + 2);
            }
            text.append(' ');
        }
    }

    private static void promise5SeventhLetter() {
        S.term(5, "a 7th letter, a 5th digit at itself, whatever may stand there");
        badAt("boards^s 5;", 1);
        badAt("abcdef^ghijkl 5;", 1);
        badAt("board abcdef^g;", 1);
        badAt("board 5 abcdef^g;", 1);
        badAt("board 5;abcdef^g;", 1);
        badAt("board 5;piece abcdef^g at 1 of 0;", 1);
        badAt("board 5;piece fox atatat^a 1 of 0;", 1);
        badAt(HEAD + "may foxfox^f up 1 when all;", 1);
        badAt(HEAD + "wins when abcdef^g=1;", 1);
        badAt(HEAD + "wins when all abcdef^g;", 1);
        badAt("board 5;stuck winswi^n;", 1);
        badAt("board 5;abcdef^g", 1);
    }

    private static void promise5FifthDigit() {
        S.term(5, "a 5th digit at itself, whatever may stand there");
        badAt("1234^5", 1);
        badAt("board 0000^5;", 1);
        badAt("board 1234^567;", 1);
        badAt("board 5 1234^5;", 1);
        badAt("board 5;1234^5;", 1);
        badAt("board 5;piece 1234^5 at 1 of 0;", 1);
        badAt("board 5;piece fox at 9999^9 of 0;", 1);
        badAt("board 5;piece fox at 1 of 0000^0;", 1);
        badAt(HEAD + "may fox up 0000^1 when all;", 1);
        badAt(HEAD + "wins when 9999^9=1;", 1);
        badAt(HEAD + "wins when all 1234^5;", 1);
    }

    private static void promise5OwnWordForName() {
        S.term(5, "where a NAME must be, an OWN WORD");
        for (String word : OWN) {
            badAt("board 5;piece fox at 0 of 0;piece ^" + word + " at 1 of 0;", 1);
            badAt(HEAD + "may ^" + word + " up 1 when all;", 1);
            badAt(HEAD + "ever not ^" + word + " off when all;", 1);
        }
    }

    private static void promise5UnknownWordInTest() {
        S.term(5, "in a TEST a WORD that is no OWN WORD, and no PIECE's NAME, has 3");
        badAt(HEAD + "wins when ^cow=1;", 3);
        badAt(HEAD + "wins when 1=^cow;", 3);
        badAt(HEAD + "wins when all and ^cow=1;", 3);
        badAt(HEAD + "wins when all or not ^cow=1;", 3);
        badAt(HEAD + "wins when [^cow=1];", 3);
        badAt(HEAD + "wins when (1+^cow)=1;", 3);
        badAt(HEAD + "wins when 1*^cow=1;", 3);
        badAt(HEAD + "wins when min(^cow,1)=1;", 3);
        badAt(HEAD + "wins when max(1,^cow)=1;", 3);
        badAt(HEAD + "wins when ^foxes=1;", 3);
        badAt(HEAD + "wins when ^fo=1;", 3);
        String[] noPart = {"board", "piece", "at", "of", "ever", "stuck", "loses", "draws", "wins", "may", "up", "down",
            "off", "when", "or", "and"};
        for (String word : noPart) {
            badAt(HEAD + "wins when ^" + word + "=1;", 1);
            badAt(HEAD + "wins when 1=^" + word + ";", 1);
        }
        badAt(HEAD + "wins when 1=^not 1;", 1);
        badAt(HEAD + "wins when 1=^all;", 1);
    }

    private static void promise5NameTwice() {
        S.term(5, "2 a NAME to be given that is there already, at its first byte");
        badAt("board 5;piece fox at 1 of 0;piece ^fox at 1 of 0;", 2);
        badAt("board 5;piece fox at 1 of 0;wins when all;piece\n ^fox", 2);
        good("board 5;piece fox at 1 of 0;piece foxy at 1 of 0;", 3);
        good("board 5;piece fox at 1 of 0;piece fo at 1 of 0;", 3);
        SundayGame x = Check.gameOf("board 5;piece fox at 1 of 0;");
        Check.feed(x, "board 5;piece fox at 2 of 0;");
        S.is("the game ahead has it, this one has not", x.game(), 2);
    }

    private static void promise5NoPiece() {
        S.term(5, "3 a NAME that is none of a PIECE, at its first byte");
        badAt(HEAD + "may ^cow up 1 when all;", 3);
        badAt(HEAD + "not ^foxy off when all;", 3);
        badAt("board 5;may ^fox up 1 when all;piece fox at 1 of 0;", 3);
        badAt("board 5;piece hen at 1 of 0;wins when ^fox=1;piece fox at 1 of 0;", 3);
        badAt("board 5;piece fox at 1 of 0;may fox up 1 when ^hen=1;", 3);
        SundayGame x = Check.gameOf(HEAD);
        Check.feed(x, "board 5;piece fox at 1 of 0;may hen up 1 when all;");
        S.is("the game ahead had it, this one has not", x.game(), SundayGame.NONE);
        S.is("the game ahead had it, this one has not", x.fault(0), 3);
    }

    private static void promise5NoSuchNumber() {
        S.term(5, "4 a NUMBER that can't be (of piece: no such FIELD), at its first byte");
        badAt("board\n ^1;", 4);
        badAt("board ^0010;", 4);
        badAt("board 2;piece fox at ^2 of 0;", 4);
        badAt("board 2;piece fox at ^0002", 4);
        badAt("board 2;piece fox at 1 of ^0003;", 4);
        badAt(HEAD + "may hen down ^0 when all;", 4);
        badAt(HEAD + "may hen down ^0004 when all;", 4);
        good(HEAD + "wins when 9999>0;", 4);
    }

    private static void promise5OneTooMany() {
        S.term(5, "5 one too many of a kind of STATEMENT, at its first byte");
        badAt(HEAD + " \n^piece", 5);
        badAt(HEAD + "^piece cow at 1 of 0;", 5);
        badAt(rules(12) + "^may fox up 1 when all;", 5);
        badAt(rules(12) + "^not fox up 1 when all;", 5);
        badAt(rules(12) + "^wins when all;", 5);
        badAt(rules(12) + "\n^loses", 5);
        good(rules(12) + "stuck wins;".repeat(20), 35);
    }

    private static void promise5TooManyWithEver() {
        S.term(5, "(of a RULE with ever, at ever)");
        badAt(rules(12) + "^ever wins when all;", 5);
        badAt(rules(12) + " ^ever may fox up 1 when all;", 5);
        badAt(HEAD + "ever wins when all;".repeat(12) + "^ever wins when all;", 5);
        badAt(HEAD + "ever wins when all;".repeat(12) + "^wins when all;", 5);
    }

    private static void promise5NinthBracket() {
        S.term(5, "a 9th ( [ that is open at once, at itself");
        good(HEAD + "wins when " + "[".repeat(8) + "all" + "]".repeat(8) + ";", 4);
        good(HEAD + "wins when " + "(".repeat(8) + "1" + ")".repeat(8) + "=1;", 4);
        good(HEAD + "wins when " + "min(".repeat(8) + "1" + ",1)".repeat(8) + "=1;", 4);
        good(HEAD + "wins when " + "[".repeat(7) + "max(1,2)=max(1,2)" + "]".repeat(7) + ";", 4);
        good(HEAD + "wins when " + "[all] and ".repeat(9) + "all;", 4);
        good(HEAD + "wins when " + "(1)+".repeat(9) + "1=1;", 4);
        good(HEAD + ("wins when " + "[".repeat(8) + "all" + "]".repeat(8) + ";").repeat(2), 5);
        badAt(HEAD + "wins when " + "[".repeat(8) + "^[all" + "]".repeat(9) + ";", 5);
        badAt(HEAD + "wins when " + "(".repeat(8) + "^(1" + ")".repeat(9) + "=1;", 5);
        badAt(HEAD + "wins when " + "[".repeat(8) + "^(1)=1" + "]".repeat(8) + ";", 5);
        badAt(HEAD + "wins when " + "[".repeat(8) + "min^(1,2)=1" + "]".repeat(8) + ";", 5);
        badAt(HEAD + "wins when " + "max(1,".repeat(8) + "max^(1,2" + ")".repeat(9) + "=1;", 5);
        badAt(HEAD + "wins when " + "[".repeat(4) + "(".repeat(4) + "1+^(2", 5);
        badAt(HEAD + "wins when " + "[".repeat(8) + "1^[", 1);
    }
}
