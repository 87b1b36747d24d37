/** Promises 9 to 12 and 17: lawful moves, a game played move by move, rows. */
public final class MovesPromiseTest {
    private static final Check CHECK = new Check();

    public static void main(String[] args) {
        lawful();
        laterOneHolds();
        testsOfMoves();
        endsBehindMoves();
        played();
        playedStuck();
        playedAnew();
        rows();
        CHECK.finish();
    }

    private static void lawfulOf(SundayGame x, int position, int... codes) {
        CHECK.is("promise 9: how many of " + position, x.lawful(position, -1), codes.length);
        for (int k = 0; k < codes.length; k++) {
            CHECK.is("promise 9: " + position + " " + k, x.lawful(position, k), codes[k]);
        }
        CHECK.is("promise 9: behind all of " + position, x.lawful(position, codes.length), -1);
        CHECK.is("promise 9: below NONE", x.lawful(position, -2), -1);
    }

    /** Of two pieces on 4 fields: number is 2 * (5 * a + b) and who. */
    private static int at(int a, int b, int who) {
        return 2 * (5 * a + b) + who;
    }

    private static void lawful() {
        SundayGame x = Check.gameOf("board 4;piece a at 0 of 0;piece b at 3 of 2;may b off when all;may b down 1 when all;"
            + "may a up 3 when all;may a up 1 when all;may a off when all;may a down 2 when all;");
        lawfulOf(x, at(0, 3, 0), 1, 3, 4, 12, 14);
        lawfulOf(x, at(0, 3, 1), 12, 14);
        lawfulOf(x, at(2, 0, 0), 0, 3, 4, 14);
        lawfulOf(x, at(3, 4, 0), 1, 4);
        lawfulOf(x, at(4, 4, 0));
        lawfulOf(x, at(4, 1, 0), 10, 14);
        CHECK.is("promise 9: the last position", x.lawful(49, -1), 0);
        CHECK.is("promise 9: no position", x.lawful(50, -1), -1);
        CHECK.is("promise 9: no position", x.lawful(-1, -1), -1);
        CHECK.is("promise 9: no position", x.lawful(50, 0), -1);
    }

    private static void laterOneHolds() {
        SundayGame x = Check.gameOf("board 4;piece a at 0 of 2;may a up 1 when all;not a up 1 when a=1;may a up 1 when who=1;"
            + "not a up 2 when all;not a off when all;may a off when a=2;");
        lawfulOf(x, 0, 1);
        lawfulOf(x, 2);
        lawfulOf(x, 3, 2);
        lawfulOf(x, 4, 3, 4);
        x.make(12);
        lawfulOf(x, 3);
        x.make(7);
        lawfulOf(x, 3, 2);
        x.make(8 + 1);
        CHECK.is("promise 9: not of up 2 is may of up 2", x.lawful(2, 0), 2);
        x.make(19);
        lawfulOf(x, 0, 1, 2);
        x.make(29);
        lawfulOf(x, 4, 3);
    }

    private static void testsOfMoves() {
        SundayGame x = Check.gameOf("board 4;piece a at 0 of 2;piece b at 0 of 2;may a up 1 when a=0 and spot=0 and goal=1;"
            + "may b up 2 when who=1 and goal=b+2 and a=4;");
        lawfulOf(x, at(0, 3, 0), 1);
        lawfulOf(x, at(1, 3, 0));
        lawfulOf(x, at(4, 1, 1), 13);
        lawfulOf(x, at(4, 1, 0));
        lawfulOf(x, at(3, 1, 1));
    }

    private static void endsBehindMoves() {
        SundayGame x = Check.gameOf("board 4;piece a at 0 of 2;may a up 1 when all;wins when a=2 and spot=1 and goal=2 and who=1;"
            + "loses when a=1;stuck draws;");
        CHECK.is("term II: 0 to 1 loses", x.value(0, 0), -1);
        CHECK.is("term II: at once", x.value(0, 1), 1);
        CHECK.is("term II: 1 to 2 wins for 1", x.value(3, 0), 1);
        CHECK.is("term II: 1 to 2 goes on for 0", x.value(2, 0), 0);
        SundayGame y = Check.gameOf("board 4;piece a at 0 of 2;may a up 1 when all;wins when all;loses when a=1;");
        CHECK.is("term II: the later one ends it", y.value(0, 0), -1);
        y.make(11);
        CHECK.is("term II: the later one is another one", y.value(0, 0), 1);
        y.undo();
        y.make(12);
        CHECK.is("term II: struck ones end nothing", y.value(0, 0), 1);
        y.make(7);
        CHECK.is("term II: wins turned about", y.value(0, 0), -1);
    }

    private static void state(String when, SundayGame x, int... due) {
        for (int what = 0; what < 4; what++) {
            CHECK.is("promise 10: " + when + " " + what, x.played(what), due[what]);
        }
        CHECK.is("promise 10: other", x.played(4), -1);
        CHECK.is("promise 10: other", x.played(-1), -1);
    }

    private static void played() {
        SundayGame x = Check.gameOf("board 4;piece a at 0 of 0;piece b at 3 of 1;may a up 1 when all;may b down 1 when all;"
            + "wins when a=b;loses when a>b;");
        state("at first", x, at(0, 3, 0), 0, 0, -1);
        CHECK.is("promise 11: not of 0", x.move(1, 2), false);
        CHECK.is("promise 11: no such goal", x.move(0, 2), false);
        CHECK.is("promise 11: a code is no goal", x.move(0, 12), false);
        CHECK.is("promise 11: no piece", x.move(2, 1), false);
        CHECK.is("promise 11: no piece", x.move(-1, 11), false);
        CHECK.is("promise 11: below 0", x.move(1, -9), false);
        CHECK.is("promise 35: refused moves", x.status(2), 6);
        state("after refusals", x, at(0, 3, 0), 0, 0, -1);
        CHECK.is("promise 11: lawful", x.move(0, 1), true);
        state("one move", x, at(1, 3, 1), 1, 1, -1);
        CHECK.is("promise 11: lawful", x.move(1, 2), true);
        state("two moves", x, at(1, 2, 0), 0, 2, -1);
        CHECK.is("promise 15: 0 wins by the next", x.hat(), 0);
        CHECK.is("promise 11: lawful", x.move(0, 2), true);
        state("over", x, at(2, 2, 1), 1, 3, 0);
        CHECK.is("promise 15: over", x.hat(), 0);
        CHECK.is("promise 11: it is over", x.move(1, 1), false);
        state("over still", x, at(2, 2, 1), 1, 3, 0);
        CHECK.is("promise 12: how many", x.anew(), 3);
        state("anew", x, at(0, 3, 0), 0, 0, -1);
        CHECK.is("promise 12: none now", x.anew(), 0);
        SundayGame y = new SundayGame();
        CHECK.is("promise 10: without fields", y.played(2), -1);
        CHECK.is("promise 11: without fields", y.move(0, 0), false);
        CHECK.is("promise 35: without fields", y.status(2), 1);
    }

    private static void playedStuck() {
        String text = "board 2;piece a at 0 of 2;may a up 1 when all;stuck ";
        String[] does = {"loses", "draws", "wins"};
        int[] winner = {0, 2, 1};
        int[] hat = {0, -1, 1};
        for (int i = 0; i < 3; i++) {
            SundayGame x = Check.gameOf(text + does[i] + ";");
            x.move(0, 1);
            state("stuck " + does[i], x, 3, 1, 1, winner[i]);
            CHECK.is("promise 15: stuck " + does[i], x.hat(), hat[i]);
            CHECK.is("promise 11: stuck", x.move(0, 1), false);
            x.make(0);
            state("stuck at first " + does[i], x, 0, 0, 0, i == 1 ? 2 : 1 - winner[i]);
        }
        SundayGame y = Check.gameOf("board 2;piece a at 0 of 2;may a up 1 when all;loses when all;");
        y.move(0, 1);
        state("lost", y, 3, 1, 1, 1);
        CHECK.is("promise 15: lost", y.hat(), 1);
    }

    private static void playedAnew() {
        SundayGame x = Check.gameOf("board 9;piece a at 0 of 2;may a up 1 when all;");
        x.move(0, 1);
        x.errs(0, 3);
        x.kind(0, 1);
        x.spring();
        x.image();
        x.would(0);
        x.ring(3, 0);
        x.outcome(0);
        CHECK.is("term III: nothing was changed", x.played(2), 1);
        x.make(3);
        state("made", x, 0, 0, 0, -1);
        x.move(0, 2);
        x.undo();
        state("undone", x, 0, 0, 0, -1);
        x.move(0, 1);
        x.kind(0, 0);
        x.sunday();
        state("Sunday 1", x, 1, 1, 0, -1);
        x.move(0, 1);
        state("Sunday 1 on", x, 2, 0, 1, -1);
        x.make(42);
        state("no change", x, 2, 0, 1, -1);
        int[] image = Check.imageOf(x);
        x.make(3);
        x.move(0, 2);
        Check.feed(x, image);
        x.on();
        state("on", x, 1, 1, 0, -1);
    }

    private static void row(SundayGame x, int due, int... codes) {
        Check.feed(x, codes);
        CHECK.is("promise 17: row", x.row(), due);
        CHECK.is("promise 17: the tape goes", x.end(1), false);
    }

    private static void rows() {
        SundayGame x = Check.gameOf("board 4;piece a at 0 of 0;piece b at 3 of 1;may a up 1 when all;may b down 1 when all;"
            + "wins when a=b;loses when a>b;");
        x.move(0, 1);
        row(x, -1);
        row(x, -1, 1);
        row(x, -1, 1, 12, 2);
        row(x, 3, 1, 12, 2, 11);
        row(x, 1, 1, 2);
        row(x, 0, 12);
        row(x, 0, 255);
        row(x, 1, 1, 13, 12);
        CHECK.is("promise 17: nothing is played", x.played(2), 1);
        CHECK.is("promise 35: no refusal", x.status(2), 0);
        x.sunday();
        row(x, 0, 1);
        row(x, -1, 12, 1);
        SundayGame y = new SundayGame();
        row(y, 0, 1);
        row(y, -1);
    }
}
