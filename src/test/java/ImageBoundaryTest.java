import java.util.Arrays;

/** Promises 32 to 35, each sentence that names a boundary: images, taking them, refusals. */
public final class ImageBoundaryTest {
    private static final Sentences S = new Sentences();
    private static final int NONE = SundayGame.NONE;
    private static final int[] FAR = {Integer.MIN_VALUE, -2, Integer.MAX_VALUE};
    /** Places 0 to 4: up, an ever one, wins, off, down. */
    private static final String TEXT = "board 5;piece a at 0 of 2;may a up 1 when all;ever may a up 2 when all;wins when a=4;"
        + "not a off when all;may a down 3 when all;";
    private static final int[] AS_TOLD = {5, 0, 0, 1, 1, 0, 2, 2, 0, 0, 3, 0, 0, 4, 0, 3, 0, 0, 0, 0, 0, 0, 0};

    public static void main(String[] args) {
        promise32HowMany();
        promise32EachPlace();
        promise32TwoBytes();
        promise32KindsAndErrs();
        promise32LastByte();
        promise33NoneSuch();
        promise33Latest();
        promise34True();
        promise34NoUndo();
        promise34TapeGoes();
        promise34EachOnce();
        promise34EverOnes();
        promise34Steps();
        promise34CannotBe();
        promise34Length();
        promise34WithoutFields();
        promise34AllStays();
        promise35FeedAndEnd();
        promise35Game();
        promise35Move();
        promise35MakeAndUndo();
        promise35ErrsAndKind();
        promise35On();
        promise35Others();
        S.finish();
    }

    private static void bytes(String when, SundayGame x, int... due) {
        int[] got = Check.imageOf(x);
        S.is("length, " + when, got.length, due.length);
        for (int k = 0; k < got.length && k < due.length; k++) {
            S.is("byte " + k + ", " + when, got[k], due[k]);
        }
    }

    private static boolean on(SundayGame x, int... bytes) {
        Check.feed(x, bytes);
        return x.on();
    }

    // ---- promises 32 and 33

    private static void promise32HowMany() {
        S.promise(32, "AN IMAGE is written: how many bytes");
        S.is("without fields", new SundayGame().image(), 8);
        S.is("without rules", Check.gameOf("board 2;").image(), 8);
        S.is("one rule", Check.gameOf("board 2;wins when all;").image(), 11);
        S.is("twelve rules", Check.gameOf("board 2;" + "wins when all;".repeat(12)).image(), 44);
    }

    private static void promise32EachPlace() {
        S.term(32, "for each PLACE: the RULE (its number in the text), 1 if struck and 2 if turned about, its N (0 of others)");
        SundayGame x = Check.gameOf(TEXT);
        bytes("as told", x, Check.sealed(AS_TOLD));
        x.make(0);
        x.make(4);
        x.make(13);
        x.make(18);
        x.make(19);
        x.make(17);
        bytes("changed", x, Check.sealed(new int[] {5, 0, 1, 3, 1, 0, 2, 3, 3, 0, 2, 2, 0, 4, 0, 3, 0, 0, 0, 0, 0, 0, 0}));
    }

    private static void promise32TwoBytes() {
        S.term(32, "SUNDAY (two bytes, the higher first)");
        SundayGame x = Check.gameOf("board 2;");
        x.sunday();
        bytes("1", x, Check.sealed(new int[] {0, 0, 1, 0, 0, 0, 0, 0}));
        S.is("255", on(x, Check.sealed(new int[] {0, 0, 255, 0, 0, 0, 0, 0})), true);
        x.sunday();
        S.is("256", x.has(5), 256);
        bytes("256", x, Check.sealed(new int[] {0, 1, 0, 0, 0, 0, 0, 0}));
        S.is("65535", on(x, Check.sealed(new int[] {0, 255, 255, 0, 0, 0, 0, 0})), true);
        S.is("65535", x.has(5), 65535);
        bytes("65535", x, Check.sealed(new int[] {0, 255, 255, 0, 0, 0, 0, 0}));
        S.is("player 1 begins on 65535", x.played(1), 1);
        x.sunday();
        S.is("player 0 begins on the next", x.played(1), 0);
        S.is("bytes stay bytes", x.image(), 8);
        S.is("the higher one", x.octet(1), 0);
        S.is("the lower one", x.octet(2), 0);
    }

    private static void promise32KindsAndErrs() {
        S.term(32, "KINDS, ERRS of both");
        SundayGame x = Check.gameOf("board 2;");
        x.kind(0, 1);
        x.kind(1, 2);
        x.errs(0, 100);
        x.errs(1, 99);
        bytes("of both", x, Check.sealed(new int[] {0, 0, 0, 1, 2, 100, 99, 0}));
    }

    private static void promise32LastByte() {
        S.term(32, "last a byte: all ahead from 37 on, c = (7 c + it) mod 223");
        bytes("36, 29, 203, 83, 135, 53, 148", Check.gameOf("board 2;"), 0, 0, 0, 0, 0, 0, 0, 148);
        SundayGame x = Check.gameOf("board 2;");
        x.errs(1, 75);
        bytes("148 and 75 are 223", x, 0, 0, 0, 0, 0, 0, 75, 0);
        x.errs(1, 74);
        bytes("148 and 74 are 222", x, 0, 0, 0, 0, 0, 0, 74, 222);
    }

    private static void promise33NoneSuch() {
        S.promise(33, "NONE if there is none such");
        SundayGame x = Check.gameOf("board 2;");
        S.is("ahead of any image", x.octet(0), NONE);
        x.image();
        S.is("the first", x.octet(0), 0);
        S.is("the last", x.octet(7), 148);
        S.is("behind the last", x.octet(8), NONE);
        S.is("-1", x.octet(-1), NONE);
        for (int far : FAR) {
            S.is("far", x.octet(far), NONE);
        }
        SundayGame most = Check.gameOf("board 2;" + "wins when all;".repeat(12));
        most.image();
        S.is("the last of the most", most.octet(43) >= 0, true);
        S.is("behind the last of the most", most.octet(44), NONE);
    }

    private static void promise33Latest() {
        S.promise(33, "Byte k of the latest image()");
        SundayGame x = Check.gameOf(TEXT);
        x.image();
        x.make(0);
        S.is("as it was written", x.octet(2), 0);
        x.image();
        S.is("as it was written later", x.octet(2), 1);
        Check.feed(x, "board 2;");
        x.game();
        S.is("that of the game ahead", x.octet(2), 1);
        x.image();
        S.is("a shorter one", x.octet(8), NONE);
    }

    // ---- promise 34

    private static void promise34True() {
        S.promise(34, "true, THE SLATE, SUNDAY, KINDS, ERRS are as it tells");
        SundayGame x = Check.gameOf(TEXT);
        int[] image = Check.sealed(new int[] {5, 4, 3, 2, 1, 0, 2, 0, 0, 1, 2, 1, 0, 3, 2, 0, 1, 2, 2, 1, 100, 99, 0});
        S.is("taken", on(x, image), true);
        bytes("as it tells", x, image);
        S.is("rule of place 0", x.rule(0, 0), 4);
        S.is("its kind", x.rule(0, 1), 1);
        S.is("its N", x.rule(0, 4), 2);
        S.is("struck", x.has(3), 2);
        S.is("Sunday", x.has(5), 258);
        S.is("player 0 begins", x.played(0), 0);
        S.is("kind of 0", x.kind(0, 0), 2);
        S.is("kind of 1", x.kind(1, 0), 1);
        S.is("errs of 0", x.errs(0, 0), 100);
        S.is("errs of 1", x.errs(1, 0), 99);
        S.is("as told again", on(x, Check.sealed(AS_TOLD)), true);
        bytes("as told again", x, Check.sealed(AS_TOLD));
        S.is("no refusal", x.status(5), 0);
    }

    private static void promise34NoUndo() {
        S.promise(34, "no CHANGE can be undone");
        SundayGame x = Check.gameOf(TEXT);
        x.make(0);
        x.make(1);
        int[] image = Check.imageOf(x);
        S.is("taken", on(x, image), true);
        S.is("none", x.has(6), 0);
        S.is("none", x.undo(), false);
        S.is("what was made stays", x.has(3), 1);
    }

    private static void promise34TapeGoes() {
        S.promise(34, "The tape (it goes) is AN IMAGE");
        SundayGame x = Check.gameOf(TEXT);
        on(x, Check.sealed(AS_TOLD));
        S.is("taken", x.end(1), false);
        on(x, AS_TOLD);
        S.is("not taken", x.end(1), false);
        SundayGame y = new SundayGame();
        on(y, AS_TOLD);
        S.is("without fields", y.end(1), false);
    }

    /** An image like that of the text but for one byte. */
    private static void but(String why, int at, int octet, boolean due) {
        int[] image = AS_TOLD.clone();
        image[at] = octet;
        SundayGame x = Check.gameOf(TEXT);
        S.is(why, on(x, Check.sealed(image)), due);
        S.is(why + ", refusals", x.status(5), due ? 0 : 1);
    }

    private static void promise34EachOnce() {
        S.promise(34, "false if it is none of these RULES (each once");
        but("rule 2 twice", 10, 2, false);
        but("rule 0 twice", 13, 0, false);
        but("no rule 5", 13, 5, false);
        but("no rule 5 that has no N", 7, 5, false);
        but("no rule 32", 1, 32, false);
        but("no rule 255", 1, 255, false);
        but("four rules", 0, 4, false);
        but("six rules", 0, 6, false);
        but("no rules", 0, 0, false);
        SundayGame x = Check.gameOf(TEXT);
        S.is("the first and the third", on(x, Check.sealed(
            new int[] {5, 2, 0, 0, 1, 0, 2, 0, 0, 1, 3, 0, 0, 4, 0, 3, 0, 0, 0, 0, 0, 0, 0})), true);
        S.is("the third is the first", x.rule(0, 0), 2);
        SundayGame other = Check.gameOf("board 5;wins when all;");
        S.is("those of another game", on(other, Check.sealed(AS_TOLD)), false);
    }

    private static void promise34EverOnes() {
        S.promise(34, "ever ones as they were told, in their PLACES");
        but("struck", 5, 1, false);
        but("turned about", 5, 2, false);
        but("N 1", 6, 1, false);
        but("N 3", 6, 3, false);
        SundayGame x = Check.gameOf(TEXT);
        S.is("in the place ahead", on(x, Check.sealed(
            new int[] {5, 1, 0, 2, 0, 0, 1, 2, 0, 0, 3, 0, 0, 4, 0, 3, 0, 0, 0, 0, 0, 0, 0})), false);
        SundayGame two = Check.gameOf("board 5;ever wins when all;ever wins when all;");
        S.is("two ever ones in one another's places", on(two, Check.sealed(
            new int[] {2, 1, 0, 0, 0, 0, 0, 0, 0, 0, 0, 0, 0, 0})), false);
        S.is("two ever ones in theirs", on(two, Check.sealed(
            new int[] {2, 0, 0, 0, 1, 0, 0, 0, 0, 0, 0, 0, 0, 0})), true);
    }

    private static void promise34Steps() {
        S.promise(34, "N 1 .. 3 of up and down, 0 of others");
        but("0 of up", 3, 0, false);
        but("1 of up", 3, 1, true);
        but("3 of up", 3, 3, true);
        but("4 of up", 3, 4, false);
        but("0 of down", 15, 0, false);
        but("1 of down", 15, 1, true);
        but("3 of down", 15, 3, true);
        but("4 of down", 15, 4, false);
        but("255 of down", 15, 255, false);
        but("1 of wins", 9, 1, false);
        but("4 of wins", 9, 4, false);
        but("1 of off", 12, 1, false);
        but("255 of off", 12, 255, false);
    }

    private static void promise34CannotBe() {
        S.promise(34, "or something can't be");
        but("struck and turned about", 2, 3, true);
        but("what is more than that", 2, 4, false);
        but("far more than that", 14, 255, false);
        but("Sunday 65280", 16, 255, true);
        but("Sunday 255", 17, 255, true);
        but("kind 2 of 0", 18, 2, true);
        but("kind 3 of 0", 18, 3, false);
        but("kind 2 of 1", 19, 2, true);
        but("kind 3 of 1", 19, 3, false);
        but("kind 255 of 1", 19, 255, false);
        but("errs 100 of 0", 20, 100, true);
        but("errs 101 of 0", 20, 101, false);
        but("errs 100 of 1", 21, 100, true);
        but("errs 101 of 1", 21, 101, false);
        but("errs 255 of 1", 21, 255, false);
        int[] image = Check.sealed(AS_TOLD);
        int last = image[22];
        for (int octet = 0; octet < 256; octet++) {
            image[22] = octet;
            SundayGame x = Check.gameOf(TEXT);
            S.is("the last byte " + octet, on(x, image), octet == last);
        }
    }

    private static void promise34Length() {
        S.promise(34, "The tape (it goes) is AN IMAGE: true");
        SundayGame x = Check.gameOf(TEXT);
        int[] image = Check.sealed(AS_TOLD);
        for (int length = 0; length <= 25; length++) {
            S.is("of " + length, on(x, Arrays.copyOf(image, length)), length == 23);
        }
        SundayGame none = Check.gameOf("board 2;");
        S.is("without rules, nothing", on(none), false);
        S.is("without rules, seven", on(none, 0, 0, 0, 0, 0, 0, 0), false);
        S.is("without rules, eight", on(none, 0, 0, 0, 0, 0, 0, 0, 148), true);
        S.is("without rules, nine", on(none, 0, 0, 0, 0, 0, 0, 0, 148, 0), false);
        SundayGame most = Check.gameOf("board 2;" + "wins when all;".repeat(12));
        S.is("of twelve rules", on(most, Check.imageOf(most)), true);
    }

    private static void promise34WithoutFields() {
        S.promise(34, "also without FIELDS");
        SundayGame x = new SundayGame();
        S.is("that of no rules", on(x, 0, 0, 0, 0, 0, 0, 0, 148), false);
        S.is("its own", on(x, Check.imageOf(x)), false);
        S.is("nothing", on(x), false);
        S.is("refusals", x.status(5), 3);
    }

    private static void promise34AllStays() {
        S.promise(34, "(all stays)");
        SundayGame x = Check.gameOf(TEXT);
        x.sunday();
        x.spring();
        x.make(0);
        x.errs(0, 3);
        x.kind(1, 2);
        x.move(0, 2);
        int[] before = Check.imageOf(x);
        int[] image = Check.sealed(new int[] {5, 4, 3, 2, 1, 0, 2, 0, 0, 1, 2, 1, 0, 3, 2, 0, 1, 2, 2, 1, 100, 101, 0});
        S.is("errs 101 come last", on(x, image), false);
        S.is("the image", Arrays.equals(before, Check.imageOf(x)), true);
        S.is("what is played", x.played(2), 1);
        S.is("the spring", x.parts(0), 0);
        S.is("what can be undone", x.undo(), true);
        S.is("and what that was", x.has(3), 0);
    }

    // ---- promise 35

    private static void only(SundayGame x, int what, int due) {
        for (int i = 0; i <= 5; i++) {
            S.is("status " + i, x.status(i), i == what ? due : 0);
        }
    }

    private static void promise35FeedAndEnd() {
        S.promise(35, "0 of feed() and end()");
        SundayGame x = new SundayGame();
        only(x, 0, 0);
        for (int i = 0; i < 90; i++) {
            x.feed(0, 0, 0, 0, 0);
        }
        only(x, 0, 0);
        x.feed(0, 0, 0, 0, 0);
        only(x, 0, 1);
        x.end(1801);
        x.end(-1);
        only(x, 0, 3);
        x.end(1800);
        only(x, 0, 3);
    }

    private static void promise35Game() {
        S.promise(35, "1 of game()");
        SundayGame x = new SundayGame();
        x.game();
        Check.feed(x, "board 1;");
        x.game();
        only(x, 1, 2);
        Check.feed(x, TEXT);
        x.game();
        only(x, 1, 2);
    }

    private static void promise35Move() {
        S.promise(35, "2 of move()");
        SundayGame x = Check.gameOf(TEXT);
        x.move(0, 1);
        only(x, 2, 0);
        x.move(0, 1);
        x.move(1, 0);
        only(x, 2, 2);
        Check.feed(x, 9);
        x.row();
        x.lawful(-1, -1);
        only(x, 2, 2);
        SundayGame y = new SundayGame();
        y.move(0, 0);
        only(y, 2, 1);
    }

    private static void promise35MakeAndUndo() {
        S.promise(35, "3 of make(), undo()");
        SundayGame x = Check.gameOf(TEXT);
        x.make(0);
        x.undo();
        only(x, 3, 0);
        x.undo();
        x.make(-1);
        x.make(6);
        only(x, 3, 3);
        x.outcome(-1);
        x.change(99);
        x.turning(9);
        only(x, 3, 3);
    }

    private static void promise35ErrsAndKind() {
        S.promise(35, "4 of errs(), kind()");
        SundayGame x = new SundayGame();
        x.errs(0, 100);
        x.kind(1, 2);
        only(x, 4, 0);
        x.errs(2, 0);
        x.kind(0, 3);
        x.kind(-1, 0);
        only(x, 4, 3);
        x.would(2);
        x.pays(-1);
        x.ring(0, 0);
        x.likely(41);
        x.sunday();
        only(x, 4, 3);
    }

    private static void promise35On() {
        S.promise(35, "5 of on()");
        SundayGame x = Check.gameOf(TEXT);
        on(x, Check.sealed(AS_TOLD));
        only(x, 5, 0);
        x.on();
        on(x, AS_TOLD);
        only(x, 5, 2);
        x.octet(-1);
        x.parts(5);
        x.letter(5, 5);
        x.rule(99, 99);
        x.has(99);
        x.fault(99);
        x.value(-1, -1);
        x.played(99);
        only(x, 5, 2);
    }

    private static void promise35Others() {
        S.promise(35, "NONE for others");
        SundayGame x = new SundayGame();
        S.is("5", x.status(5), 0);
        S.is("6", x.status(6), NONE);
        S.is("-1", x.status(-1), NONE);
        for (int far : FAR) {
            S.is("far", x.status(far), NONE);
        }
    }
}
