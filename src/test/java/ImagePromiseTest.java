/** Promises 30 to 35: the spring, images, refusals. */
public final class ImagePromiseTest {
    private static final Check CHECK = new Check();
    private static final String TEXT = "board 5;piece a at 0 of 2;may a up 1 when all;ever may a up 2 when all;wins when a=4;"
        + "not a off when all;";

    public static void main(String[] args) {
        spring();
        partsLater();
        partsByEnds();
        partsNotBehindParting();
        images();
        octetsStay();
        on();
        spoiledImages();
        withoutFields();
        statuses();
        CHECK.finish();
    }

    private static void parts(String when, SundayGame x, int moves, int number) {
        CHECK.is("promise 31: moves, " + when, x.parts(0), moves);
        CHECK.is("promise 31: number, " + when, x.parts(1), number);
    }

    private static void spring() {
        SundayGame x = Check.gameOf(TEXT);
        x.make(0);
        parts("none is kept", x, -1, -1);
        CHECK.is("promise 30: rules", x.spring(), 4);
        parts("alike", x, -1, -1);
        x.undo();
        parts("up 1 is back", x, 0, 0);
        x.sunday();
        parts("on Sunday 1", x, 0, 1);
        CHECK.is("promise 31: other", x.parts(2), -1);
        CHECK.is("promise 31: other", x.parts(-1), -1);
        x.spring();
        parts("alike again", x, -1, -1);
        x.make(18);
        parts("a not that speaks of nothing that may be", x, -1, -1);
        x.make(0);
        x.make(0);
        parts("put back", x, -1, -1);
    }

    private static void partsLater() {
        SundayGame x = Check.gameOf("board 9;piece a at 0 of 2;may a up 1 when all;may a up 2 when all;not a up 2 when a=4;"
            + "not a up 1 when a=3;");
        x.spring();
        x.make(12);
        parts("at 4, who is 0 there first", x, 2, 8);
        x.make(18);
        parts("at 3 in two moves, who is 0", x, 2, 6);
        x.undo();
        x.undo();
        x.make(21);
        parts("no N of it is not: it is up 2 when a=3", x, -1 + 3, 6);
    }

    private static void partsByEnds() {
        SundayGame x = Check.gameOf("board 9;piece a at 0 of 2;may a up 1 when all;wins when a=3;loses when a=6;");
        x.spring();
        x.make(7);
        parts("a win is a loss", x, 2, 4);
        x.undo();
        x.make(12);
        parts("it ended ahead of that in both", x, -1, -1);
        x.make(6);
        parts("an end is none", x, 2, 4);
    }

    private static void partsNotBehindParting() {
        SundayGame x = Check.gameOf("board 9;piece a at 0 of 2;may a up 1 when all;may a up 3 when a=1;may a up 2 when a=1;");
        x.spring();
        x.make(6);
        x.make(12);
        parts("both are at 1", x, 1, 3);
    }

    private static void bytes(String when, int[] got, int... due) {
        CHECK.is("promise 32: length, " + when, got.length, due.length);
        for (int k = 0; k < got.length && k < due.length; k++) {
            CHECK.is("promise 33: " + when + " " + k, got[k], due[k]);
        }
    }

    private static void images() {
        SundayGame x = Check.gameOf(TEXT);
        int[] first = {4, 0, 0, 1, 1, 0, 2, 2, 0, 0, 3, 0, 0, 0, 0, 0, 0, 0, 0, 0};
        bytes("at first", Check.imageOf(x), Check.sealed(first));
        x.make(0);
        x.make(1);
        x.make(4);
        x.make(17);
        x.make(13);
        x.kind(0, 2);
        x.kind(1, 1);
        x.errs(0, 100);
        x.errs(1, 7);
        x.kind(0, 0);
        x.kind(1, 0);
        x.sunday();
        x.kind(0, 2);
        x.kind(1, 1);
        int[] second = {4, 0, 3, 3, 1, 0, 2, 3, 2, 0, 2, 0, 0, 0, 1, 2, 1, 100, 7, 0};
        bytes("changed", Check.imageOf(x), Check.sealed(second));
        CHECK.is("promise 33: behind it", x.octet(20), -1);
        CHECK.is("promise 33: below 0", x.octet(-1), -1);
        int check = 37;
        for (int b : new int[] {0, 0, 0, 0, 0, 0, 0}) {
            check = (7 * check + b) % 223;
        }
        bytes("no rules", Check.imageOf(Check.gameOf("board 2;")), 0, 0, 0, 0, 0, 0, 0, check);
    }

    private static void octetsStay() {
        SundayGame x = Check.gameOf(TEXT);
        int length = x.image();
        int last = x.octet(length - 1);
        x.make(0);
        CHECK.is("promise 33: of the latest image", x.octet(2), 0);
        Check.feed(x, "board 2;");
        x.game();
        CHECK.is("promise 33: of the latest image still", x.octet(length - 1), last);
    }

    private static void on() {
        SundayGame x = Check.gameOf(TEXT);
        int[] bytes = Check.sealed(new int[] {4, 0, 3, 3, 1, 0, 2, 3, 2, 0, 2, 1, 0, 255, 255, 2, 1, 100, 0, 0});
        x.make(0);
        x.spring();
        Check.feed(x, bytes);
        CHECK.is("promise 34: it is one", x.on(), true);
        CHECK.is("promise 34: the tape goes", x.end(1), false);
        CHECK.is("promise 34: struck", x.has(3), 2);
        CHECK.is("promise 34: Sunday", x.has(5), 65535);
        CHECK.is("promise 34: no change can be undone", x.has(6), 0);
        CHECK.is("promise 34: none", x.undo(), false);
        CHECK.is("promise 34: the place", x.rule(2, 0), 3);
        CHECK.is("promise 34: not is may", x.rule(2, 1), 0);
        CHECK.is("promise 34: N", x.rule(0, 4), 3);
        CHECK.is("promise 34: who begins", x.played(1), 1);
        bytes("as it tells", Check.imageOf(x), bytes);
        CHECK.is("promise 34: kind", x.kind(0, 0), 2);
        CHECK.is("promise 34: errs", x.errs(0, 0), 100);
        CHECK.is("promise 34: the spring stays", x.parts(1) >= -1, true);
        x.kind(1, 0);
        x.sunday();
        CHECK.is("promise 26: the next Sunday", x.has(5), 65536);
        CHECK.is("promise 10: who begins", x.played(1), 0);
    }

    private static void refused(String why, int at, int octet) {
        SundayGame x = Check.gameOf(TEXT);
        x.make(0);
        int[] bytes = Check.imageOf(x);
        bytes[at] = octet;
        Check.feed(x, Check.sealed(bytes));
        CHECK.is("promise 34: " + why, x.on(), false);
        CHECK.is("promise 34: the tape goes, " + why, x.end(1), false);
        CHECK.is("promise 34: all stays, " + why, x.has(3), 1);
        CHECK.is("promise 34: changes stay, " + why, x.has(6), 1);
        CHECK.is("promise 35: " + why, x.status(5), 1);
    }

    private static void spoiledImages() {
        refused("not so many rules", 0, 3);
        refused("a rule twice", 1, 2);
        refused("no rule", 10, 4);
        refused("no rule", 10, 255);
        refused("what is neither struck nor turned", 2, 4);
        refused("N 0 of up", 3, 0);
        refused("N 4 of up", 3, 4);
        refused("an ever rule struck", 5, 1);
        refused("an ever rule turned", 5, 2);
        refused("an ever rule with another N", 6, 1);
        refused("N of wins", 9, 1);
        refused("N of off", 12, 1);
        refused("kind 3", 15, 3);
        refused("kind 3", 16, 3);
        refused("errs 101", 17, 101);
        refused("errs 101", 18, 101);
        SundayGame x = Check.gameOf(TEXT);
        Check.feed(x, Check.sealed(new int[] {4, 1, 0, 2, 0, 0, 1, 2, 0, 0, 3, 0, 0, 0, 0, 0, 0, 0, 0, 0}));
        CHECK.is("promise 34: an ever rule in another place", x.on(), false);
        int[] whole = Check.imageOf(x);
        whole[19] ^= 1;
        Check.feed(x, whole);
        CHECK.is("promise 34: the last byte", x.on(), false);
        whole[19] ^= 1;
        Check.feed(x, java.util.Arrays.copyOf(whole, 19));
        CHECK.is("promise 34: too short", x.on(), false);
        Check.feed(x, java.util.Arrays.copyOf(whole, 21));
        CHECK.is("promise 34: too long", x.on(), false);
        Check.feed(x);
        CHECK.is("promise 34: nothing", x.on(), false);
        Check.feed(x, whole);
        CHECK.is("promise 34: whole", x.on(), true);
        CHECK.is("promise 35: refused", x.status(5), 5);
    }

    private static void withoutFields() {
        SundayGame x = new SundayGame();
        x.errs(0, 5);
        int[] bytes = Check.imageOf(x);
        bytes("without fields", bytes, Check.sealed(new int[] {0, 0, 0, 0, 0, 5, 0, 0}));
        Check.feed(x, bytes);
        CHECK.is("promise 34: without fields", x.on(), false);
        CHECK.is("promise 34: the tape goes", x.end(1), false);
    }

    private static void statuses() {
        SundayGame x = new SundayGame();
        for (int what = 0; what <= 5; what++) {
            CHECK.is("promise 35: at first", x.status(what), 0);
        }
        CHECK.is("promise 35: other", x.status(6), -1);
        CHECK.is("promise 35: other", x.status(-1), -1);
        x.end(1);
        x.game();
        x.game();
        x.move(0, 0);
        x.make(0);
        x.undo();
        x.undo();
        x.errs(3, 0);
        x.kind(3, 0);
        x.on();
        int[] due = {1, 2, 1, 3, 2, 1};
        for (int what = 0; what <= 5; what++) {
            CHECK.is("promise 35: " + what, x.status(what), due[what]);
        }
        Check.feed(x, "board 2;");
        x.game();
        CHECK.is("promise 4: refusals stay", x.status(3), 3);
    }
}
