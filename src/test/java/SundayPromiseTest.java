/** Promises 25 to 29: kinds of players, Sundays, when losing pays, rings. */
public final class SundayPromiseTest {
    private static final Check CHECK = new Check();
    /** Player 0 alone can move: it wins whoever begins, until the only rule is struck or turned about. */
    private static final String ALONE = "board 9;piece a at 0 of 0;may a up 1 when all;";

    public static void main(String[] args) {
        kinds();
        nothing();
        now();
        fair();
        drawnSunday();
        would();
        pays();
        rings();
        longerRing();
        wrongInputs();
        CHECK.finish();
    }

    private static void kinds() {
        SundayGame x = new SundayGame();
        CHECK.is("promise 25: at first", x.kind(0, 2), 0);
        CHECK.is("promise 25: what it was", x.kind(0, 1), 2);
        CHECK.is("promise 25: the other", x.kind(1, 0), 0);
        CHECK.is("promise 25: no kind", x.kind(0, 3), -1);
        CHECK.is("promise 25: no kind", x.kind(0, -1), -1);
        CHECK.is("promise 25: no player", x.kind(2, 0), -1);
        CHECK.is("promise 25: no player", x.kind(-1, 0), -1);
        CHECK.is("promise 25: all stays", x.kind(0, 0), 1);
        CHECK.is("promise 35: refused", x.status(4), 4);
    }

    private static void nothing() {
        SundayGame x = Check.gameOf(ALONE);
        CHECK.is("promise 26: kind 0", x.sunday(), -1);
        CHECK.is("promise 26: the next", x.has(5), 1);
        CHECK.is("promise 26: nothing was changed", x.has(6), 0);
    }

    private static void now() {
        SundayGame x = Check.gameOf(ALONE);
        x.kind(0, 1);
        x.kind(1, 1);
        CHECK.is("promise 14: 0 wins", x.worth(), 1);
        CHECK.is("promise 26: 1 has lost; on its Sunday without a move for 0 both are stuck, 1 first", x.sunday(), -1);
        CHECK.is("promise 14: 0 wins again", x.worth(), -1);
        CHECK.is("promise 26: 0 is to begin then, and stuck", x.sunday(), 0);
        CHECK.is("promise 14: 0 is stuck", x.worth(), -1);
        CHECK.is("promise 26: 0 has lost; 1 is to begin, and stuck in any case", x.sunday(), -1);
        CHECK.is("promise 14: 1 is stuck", x.worth(), -1);
        CHECK.is("promise 26: 0 is stuck as it is", x.sunday(), -1);
        CHECK.is("promise 6: one change", x.has(6), 1);
    }

    private static void fair() {
        SundayGame x = Check.gameOf("board 4;piece a at 0 of 2;may a up 1 when all;wins when a=3;wins when a=1;stuck draws;");
        x.kind(1, 2);
        CHECK.is("promise 14: 0 wins", x.worth(), 1);
        CHECK.is("promise 27: the first that makes it drawn", x.would(1), 0);
        CHECK.is("promise 26: that", x.sunday(), 0);
        CHECK.is("promise 14: drawn", x.worth(), 0);
        CHECK.is("promise 27: it is so already", x.would(1), -1);
        SundayGame y = Check.gameOf("board 4;piece a at 0 of 2;ever may a up 1 when all;ever wins when a=1;wins when all;");
        y.kind(0, 2);
        CHECK.is("promise 27: there is none", y.would(0), -1);
    }

    private static void drawnSunday() {
        SundayGame x = Check.gameOf("board 4;piece a at 0 of 2;may a up 1 when all;wins when not all;stuck draws;");
        x.kind(0, 1);
        x.kind(1, 1);
        CHECK.is("promise 27: it would", x.would(0), -1);
        CHECK.is("promise 27: on the next Sunday 1 begins; wins turned about loses for 1", x.would(0), -1);
        CHECK.is("promise 26: nobody has lost", x.sunday(), -1);
        SundayGame y = Check.gameOf("board 4;piece a at 0 of 2;may a up 1 when all;wins when all;wins when who=0;stuck draws;");
        y.kind(0, 1);
        y.kind(1, 1);
        y.make(6);
        y.make(12);
        CHECK.is("promise 14: drawn", y.worth(), 0);
        CHECK.is("promise 27: wins put back is for 1, who begins then", y.would(1), 6);
        CHECK.is("promise 27: for 0 the second move comes too late", y.would(0), 12);
        CHECK.is("promise 26: nobody has lost", y.sunday(), -1);
        CHECK.is("promise 26: nothing was changed", y.has(6), 2);
    }

    private static void would() {
        SundayGame x = Check.gameOf(ALONE);
        CHECK.is("promise 27: kind 0", x.would(0), -1);
        x.kind(0, 1);
        x.kind(1, 1);
        CHECK.is("promise 27: 0 has it best already", x.would(0), -1);
        CHECK.is("promise 27: 1 begins and is stuck in any case", x.would(1), -1);
        x.sunday();
        CHECK.is("promise 27: 1 would strike", x.would(1), 0);
        CHECK.is("promise 27: 0 would not", x.would(0), -1);
        CHECK.is("promise 27: no player", x.would(2), -2);
        CHECK.is("promise 27: no player", x.would(-1), -2);
        CHECK.is("promise 6: nothing was changed", x.has(6), 0);
    }

    private static void pays() {
        SundayGame x = Check.gameOf(ALONE);
        x.kind(0, 1);
        x.kind(1, 1);
        CHECK.is("promise 28: 0 wins in any case", x.pays(0), 0);
        x.sunday();
        CHECK.is("promise 28: 1 begins: -1 if 0 does nothing, 1 if it strikes itself", x.pays(0), 1);
        CHECK.is("promise 28: 1 and -1 are not below 1 less 1", x.pays(1), 0);
        CHECK.is("promise 28: 100", x.pays(100), 0);
        CHECK.is("promise 28: 101", x.pays(101), -1);
        CHECK.is("promise 28: below 0", x.pays(-1), -1);
        x.kind(1, 0);
        CHECK.is("promise 28: neither changes a thing", x.pays(0), 0);
    }

    private static void ring(SundayGame x, int n, int length, int lead) {
        CHECK.is("promise 29: ring of " + n, x.ring(n, 0), length);
        CHECK.is("promise 29: begins within " + n, x.ring(n, 1), lead);
    }

    private static void rings() {
        SundayGame x = Check.gameOf(ALONE);
        ring(x, 1, -1, -1);
        ring(x, 2, 2, 0);
        ring(x, 12, 2, 0);
        x.kind(0, 1);
        x.kind(1, 1);
        ring(x, 3, -1, -1);
        ring(x, 4, 2, 2);
        ring(x, 12, 2, 2);
        CHECK.is("promise 29: all stays", x.has(5), 0);
        CHECK.is("promise 29: all stays", x.has(3), 0);
        x.sunday();
        ring(x, 3, 2, 1);
    }

    /** Looks for a ring by playing the Sundays themselves. */
    private static void longerRing() {
        SundayGame x = Check.gameOf("board 4;piece fox at 0 of 2;may fox up 1 when all;may fox up 2 when who=0;wins when fox=3;");
        for (int kinds = 0; kinds < 9; kinds++) {
            x.kind(0, kinds / 3);
            x.kind(1, kinds % 3);
            int length = x.ring(12, 0);
            int lead = x.ring(12, 1);
            int[][] seen = new int[13][];
            for (int k = 0; k <= 12; k++) {
                seen[k] = Check.imageOf(x);
                seen[k][seen[k].length - 1] = 0;
                seen[k][seen[k].length - 6] &= 1;
                x.sunday();
            }
            int foundLength = -1;
            int foundLead = -1;
            for (int k = 0; k <= 12 && foundLength < 0; k++) {
                for (int j = 0; j < k; j++) {
                    if (java.util.Arrays.equals(seen[j], seen[k])) {
                        foundLength = k - j;
                        foundLead = j;
                    }
                }
            }
            CHECK.is("promise 29: of kinds " + kinds, length, foundLength);
            CHECK.is("promise 29: of kinds " + kinds, lead, foundLead);
        }
    }

    private static void wrongInputs() {
        SundayGame x = Check.gameOf(ALONE);
        CHECK.is("promise 29: 0", x.ring(0, 0), -1);
        CHECK.is("promise 29: 13", x.ring(13, 0), -1);
        CHECK.is("promise 29: other", x.ring(3, 2), -1);
        CHECK.is("promise 29: other", x.ring(3, -1), -1);
        SundayGame y = new SundayGame();
        CHECK.is("promise 26: without fields", y.sunday(), -2);
        CHECK.is("promise 26: no Sunday", y.has(5), 0);
        CHECK.is("promise 27: without fields", y.would(0), -2);
        CHECK.is("promise 28: without fields", y.pays(0), -1);
        CHECK.is("promise 29: without fields", y.ring(3, 0), -1);
    }
}
