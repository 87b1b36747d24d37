/** Promises 6 to 12 and 17, each sentence that names a boundary: what is told, lawful moves, a game that is played. */
public final class MovesBoundaryTest {
    private static final Sentences S = new Sentences();
    private static final int NONE = SundayGame.NONE;
    private static final int[] FAR = {Integer.MIN_VALUE, -2, Integer.MAX_VALUE};
    /** Two pieces on 4 fields; who comes to the other's field wins, who goes past it loses. */
    private static final String MEET = "board 4;piece a at 0 of 0;piece b at 3 of 1;may a up 1 when all;may b down 1 when all;"
        + "wins when a=b;loses when a>b;";

    public static void main(String[] args) {
        promise6Struck();
        promise6Positions();
        promise6CanBeUndone();
        promise6Stuck();
        promise6Others();
        promise7NoneSuch();
        promise7Letters();
        promise8NoneSuch();
        promise8WithoutPiece();
        promise8AsItIsNow();
        promise8Whether();
        promise9HowMany();
        promise9NoneSuch();
        promise9OwnPiecesNotOff();
        promise9GoalsAreFields();
        promise9HighestPlace();
        promise9InOrder();
        promise9NamesAhead();
        promise10NamesNow();
        promise10HighestPlaceEnds();
        promise9Number();
        promise10Over();
        promise10WhoHasWon();
        promise10StuckAtFirst();
        promise10Others();
        promise10Anew();
        promise11NotLawful();
        promise11WhenOver();
        promise12TheBeginningAgain();
        promise12HowMany();
        promise17Codes();
        promise17FirstNotLawful();
        promise17WhenOver();
        promise17Empty();
        promise17NothingIsPlayed();
        S.finish();
    }

    /** Of MEET: where both are, and who is to move. */
    private static int at(int a, int b, int who) {
        return 2 * (5 * a + b) + who;
    }

    // ---- promises 6 to 8

    private static void promise6Struck() {
        S.promise(6, "2 RULES, 3 of them struck");
        SundayGame x = Check.gameOf("board 2;" + "wins when all;".repeat(12));
        for (int place = 0; place < 12; place++) {
            S.is("struck", x.has(3), place);
            x.make(6 * place);
        }
        S.is("all struck", x.has(3), 12);
        S.is("they are rules still", x.has(2), 12);
        x.make(66);
        S.is("put back", x.has(3), 11);
    }

    private static void promise6Positions() {
        S.promise(6, "4 POSITIONS (0 without FIELDS)");
        S.is("without", new SundayGame().has(4), 0);
        S.is("no piece", Check.gameOf("board 2;").has(4), 2);
        S.is("one on 2", Check.gameOf("board 2;piece a at 0 of 0;").has(4), 6);
        S.is("two on 2", Check.gameOf("board 2;piece a at 0 of 0;piece b at 0 of 0;").has(4), 18);
        S.is("one on 9", Check.gameOf("board 9;piece a at 0 of 0;").has(4), 20);
        S.is("two on 9", Check.gameOf("board 9;piece a at 0 of 0;piece b at 0 of 0;").has(4), 200);
    }

    private static void promise6CanBeUndone() {
        S.promise(6, "6 CHANGES made that can be undone");
        SundayGame x = Check.gameOf("board 2;wins when all;");
        for (int i = 0; i <= 45; i++) {
            S.is("made " + i, x.has(6), Math.min(i, 40));
            x.make(0);
        }
        x.undo();
        S.is("one undone", x.has(6), 39);
    }

    private static void promise6Stuck() {
        S.promise(6, "7 what stuck does (0 loses, 1 draws, 2 wins)");
        S.is("without fields", new SundayGame().has(7), 0);
        S.is("without", Check.gameOf("board 2;").has(7), 0);
        S.is("loses", Check.gameOf("board 2;stuck loses;").has(7), 0);
        S.is("draws", Check.gameOf("board 2;stuck draws;").has(7), 1);
        S.is("wins", Check.gameOf("board 2;stuck wins;").has(7), 2);
    }

    private static void promise6Others() {
        S.promise(6, "NONE for others.");
        SundayGame x = Check.gameOf(MEET);
        S.is("-1", x.has(-1), NONE);
        S.is("8", x.has(8), NONE);
        for (int far : FAR) {
            S.is("far", x.has(far), NONE);
        }
    }

    private static void promise7NoneSuch() {
        S.promise(7, "NONE if there is none such");
        SundayGame x = Check.gameOf("board 5;piece abcdef at 1 of 0;piece z at 3 of 2;");
        S.is("the first", x.letter(0, 0), 'a');
        S.is("the sixth", x.letter(0, 5), 'f');
        S.is("a seventh", x.letter(0, 6), NONE);
        S.is("the only one", x.letter(1, 0), 'z');
        S.is("a second", x.letter(1, 1), NONE);
        S.is("letter -1", x.letter(0, -1), NONE);
        S.is("piece -1", x.letter(-1, 0), NONE);
        S.is("piece 2", x.letter(2, 0), NONE);
        for (int far : FAR) {
            S.is("far letter", x.letter(0, far), NONE);
            S.is("far piece", x.letter(far, 0), NONE);
        }
        Check.feed(x, "board 5;piece b at 1 of 0;");
        x.game();
        S.is("one piece now", x.letter(0, 0), 'b');
        S.is("its name is shorter now", x.letter(0, 1), NONE);
        S.is("the second went", x.letter(1, 0), NONE);
    }

    private static void promise7Letters() {
        S.promise(7, "Letter k of a PIECE's NAME, 97 .. 122");
        String[] names = {"abcdef", "ghijkl", "mnopqr", "stuvwx", "yz"};
        for (int i = 0; i + 1 < names.length; i++) {
            SundayGame x = Check.gameOf("board 2;piece " + names[i] + " at 0 of 0;piece " + names[i + 1] + " at 0 of 0;");
            for (int k = 0; k < names[i + 1].length(); k++) {
                S.is("letter", x.letter(0, k), names[i].charAt(k));
                S.is("letter of the second", x.letter(1, k), names[i + 1].charAt(k));
            }
            for (int k = 6; k < 40; k++) {
                S.is("none behind six", x.letter(0, k), NONE);
                S.is("none ahead", x.letter(0, 5 - k), NONE);
            }
        }
    }

    private static void promise8NoneSuch() {
        S.promise(8, "NONE if there is none such, or for others.");
        SundayGame x = Check.gameOf("board 5;piece a at 1 of 0;" + "may a up 2 when all;".repeat(12));
        S.is("the last", x.rule(11, 0), 11);
        S.is("behind the last", x.rule(12, 0), NONE);
        S.is("place -1", x.rule(-1, 0), NONE);
        S.is("the last what", x.rule(0, 6), 0);
        S.is("what 7", x.rule(0, 7), NONE);
        S.is("what -1", x.rule(0, -1), NONE);
        for (int far : FAR) {
            S.is("far place", x.rule(far, 0), NONE);
            S.is("far what", x.rule(0, far), NONE);
        }
        Check.feed(x, "board 5;piece a at 1 of 0;wins when all;");
        x.game();
        S.is("one rule now", x.rule(0, 1), 2);
        S.is("the others went", x.rule(1, 0), NONE);
    }

    private static void promise8WithoutPiece() {
        S.promise(8, "2 its PIECE (NONE of wins, loses), 3 its way (0 up, 1 down, 2 off; NONE likewise), 4 its N (0 without)");
        SundayGame x = Check.gameOf("board 5;piece a at 1 of 0;piece b at 1 of 0;wins when all;loses when all;may b off when all;"
            + "not a up 3 when all;may b down 1 when all;");
        int[] pieces = {NONE, NONE, 1, 0, 1};
        int[] ways = {NONE, NONE, 2, 0, 1};
        int[] steps = {0, 0, 0, 3, 1};
        for (int place = 0; place < 5; place++) {
            S.is("piece of " + place, x.rule(place, 2), pieces[place]);
            S.is("way of " + place, x.rule(place, 3), ways[place]);
            S.is("N of " + place, x.rule(place, 4), steps[place]);
        }
    }

    private static void promise8AsItIsNow() {
        S.term(8, "(may is not then, not is may, wins is loses, loses is wins)");
        SundayGame x = Check.gameOf("board 5;piece a at 1 of 0;may a off when all;not a off when all;wins when all;loses when all;");
        for (int place = 0; place < 4; place++) {
            S.is("as told", x.rule(place, 1), place);
            x.make(6 * place + 1);
            S.is("turned about", x.rule(place, 1), place ^ 1);
            S.is("its number stays", x.rule(place, 0), place);
            x.make(6 * place + 1);
            S.is("turned back", x.rule(place, 1), place);
        }
    }

    private static void promise8Whether() {
        S.promise(8, "5 whether it is struck, 6 whether it is ever");
        SundayGame x = Check.gameOf("board 5;wins when all;ever wins when all;wins when all;");
        int[] ever = {0, 1, 0};
        for (int place = 0; place < 3; place++) {
            S.is("not struck, " + place, x.rule(place, 5), 0);
            S.is("ever, " + place, x.rule(place, 6), ever[place]);
        }
        x.make(12);
        S.is("struck", x.rule(2, 5), 1);
        S.is("not that", x.rule(0, 5), 0);
        x.make(12);
        S.is("put back", x.rule(2, 5), 0);
    }

    // ---- promise 9

    private static void lawful(SundayGame x, int position, int... codes) {
        S.is("how many of " + position, x.lawful(position, NONE), codes.length);
        for (int k = 0; k < codes.length; k++) {
            S.is(k + " of " + position, x.lawful(position, k), codes[k]);
        }
        S.is("one more of " + position, x.lawful(position, codes.length), NONE);
    }

    private static void promise9HowMany() {
        S.promise(9, "How many LAWFUL MOVES a POSITION has (k NONE)");
        lawful(Check.gameOf("board 2;"), 0);
        lawful(Check.gameOf("board 2;piece a at 0 of 0;"), 1);
        StringBuilder text = new StringBuilder("board 9;piece a at 4 of 2;piece b at 4 of 2;");
        for (String name : new String[] {"b", "a"}) {
            for (int n = 3; n >= 1; n--) {
                text.append("may ").append(name).append(" up ").append(n).append(" when all;");
            }
            for (int n = 1; n <= 2; n++) {
                text.append("may ").append(name).append(" down ").append(n).append(" when all;");
            }
            text.append("may ").append(name).append(" off when all;");
        }
        SundayGame most = Check.gameOf(text.toString());
        lawful(most, most.played(0), 2, 3, 5, 6, 7, 9, 12, 13, 15, 16, 17, 19);
    }

    private static void promise9NoneSuch() {
        S.promise(9, "NONE if there is none such");
        SundayGame x = Check.gameOf(MEET);
        S.is("the last position", x.lawful(49, NONE), 0);
        S.is("behind the last", x.lawful(50, NONE), NONE);
        S.is("position -1", x.lawful(-1, NONE), NONE);
        S.is("position -1, first move", x.lawful(-1, 0), NONE);
        S.is("no first move", x.lawful(49, 0), NONE);
        for (int far : FAR) {
            S.is("far position", x.lawful(far, NONE), NONE);
            S.is("far move", x.lawful(x.played(0), far), NONE);
        }
        S.is("without fields", new SundayGame().lawful(0, NONE), NONE);
        S.is("without fields", new SundayGame().lawful(0, 0), NONE);
    }

    private static void promise9OwnPiecesNotOff() {
        S.term(9, "a PIECE of who is to move, or of both, that is not OFF");
        SundayGame x = Check.gameOf("board 2;piece a at 0 of 0;piece b at 0 of 1;may a up 1 when all;may b up 1 when all;"
            + "may a off when all;may b off when all;");
        lawful(x, 0, 1, 2);
        lawful(x, 1, 11, 12);
        lawful(x, 2 * (3 * 2 + 0));
        lawful(x, 2 * (3 * 2 + 0) + 1, 11, 12);
        lawful(x, 2 * (3 * 0 + 2), 1, 2);
        lawful(x, 2 * (3 * 0 + 2) + 1);
        SundayGame both = Check.gameOf("board 2;piece a at 0 of 2;may a off when all;may a up 1 when all;");
        lawful(both, 0, 1, 2);
        lawful(both, 1, 1, 2);
        lawful(both, 4);
        lawful(both, 5);
    }

    private static void promise9GoalsAreFields() {
        S.term(9, "up: spot and N, down: spot less N (both FIELDS), off: OFF");
        SundayGame x = Check.gameOf("board 9;piece a at 0 of 2;may a up 3 when all;may a down 3 when all;");
        lawful(x, 0, 3);
        lawful(x, 2 * 2, 5);
        lawful(x, 2 * 3, 0, 6);
        lawful(x, 2 * 5, 2, 8);
        lawful(x, 2 * 6, 3);
        lawful(x, 2 * 8, 5);
        lawful(x, 2 * 9);
        SundayGame y = Check.gameOf("board 2;piece a at 1 of 2;may a off when all;not a up 1 when all;may a down 1 when all;");
        lawful(y, 2, 0, 2);
        SundayGame z = Check.gameOf("board 2;piece a at 1 of 2;may a up 1 when all;may a down 2 when all;not a off when all;");
        lawful(z, 2);
    }

    private static void promise9HighestPlace() {
        S.term(9, "that with the highest PLACE is a may");
        SundayGame x = Check.gameOf("board 4;piece a at 0 of 2;may a up 1 when all;not a up 1 when all;may a up 1 when not all;"
            + "not a up 2 when all;");
        lawful(x, 0);
        x.make(6);
        lawful(x, 0, 1);
        x.undo();
        x.make(5);
        lawful(x, 0, 1);
        x.make(1);
        lawful(x, 0, 1);
        x.make(7);
        lawful(x, 0);
        x.make(19);
        lawful(x, 0, 2);
        x.make(20);
        lawful(x, 0, 1);
    }

    private static void promise9InOrder() {
        S.term(9, "MOVES of a POSITION, in the order of PIECES, then goals");
        SundayGame x = Check.gameOf("board 4;piece a at 2 of 2;piece b at 1 of 2;may b off when all;may b up 2 when all;"
            + "may b down 1 when all;may a off when all;may a up 1 when all;may a down 2 when all;may a down 1 when all;");
        lawful(x, 2 * (5 * 2 + 1), 0, 1, 3, 4, 10, 13, 14);
        SundayGame twice = Check.gameOf("board 4;piece a at 2 of 2;may a up 1 when all;may a up 1 when all;");
        lawful(twice, 4, 3);
    }

    private static void promise9NamesAhead() {
        S.term(9, "NAMES as it is ahead of the move");
        SundayGame x = Check.gameOf("board 4;piece a at 0 of 2;may a up 1 when a=0;may a up 2 when a=2;may a up 3 when a=spot;");
        lawful(x, 0, 1, 3);
        lawful(x, 2);
        lawful(x, 4);
        SundayGame y = Check.gameOf("board 4;piece a at 0 of 2;may a up 1 when all;wins when a=goal and spot+1=goal and who=0;"
            + "loses when a=spot;stuck draws;");
        S.term(13, "(spot, goal, who as ahead; NAMES as it is now)");
        S.is("player 0 wins by it", y.value(0, 0), 1);
        S.is("player 1 does not", y.value(5, 0), 0);
    }

    private static void promise10NamesNow() {
        S.term(10, "(spot, goal, who as ahead; NAMES as it is now) ends it: who moved has won, or lost");
        String text = "board 4;piece a at 1 of 2;piece b at 2 of 2;may a up 2 when all;may b down 2 when all;stuck draws;wins when ";
        SundayGame first = Check.gameOf(text + "a=3 and b=2 and spot=1 and goal=3 and who=0;");
        first.move(0, 3);
        S.is("the first moved", first.played(3), 0);
        SundayGame second = Check.gameOf(text + "a=1 and b=0 and spot=2 and goal=0 and who=0;");
        second.move(1, 0);
        S.is("the second moved", second.played(3), 0);
        SundayGame ahead = Check.gameOf(text + "b=2 or who=1;");
        ahead.move(1, 0);
        S.is("it is there no more, and 0 moved", ahead.played(3), NONE);
        SundayGame off = Check.gameOf("board 4;piece a at 1 of 2;piece b at 2 of 2;may b off when all;wins when b=4 and goal=4;");
        off.move(1, 4);
        S.is("the second is off", off.played(3), 0);
        SundayGame lost = Check.gameOf("board 4;piece a at 1 of 2;may a up 1 when all;loses when all;");
        lost.sunday();
        lost.move(0, 2);
        S.is("1 moved and has lost", lost.played(3), 0);
        S.is("the hat", lost.hat(), 0);
    }

    private static void promise10HighestPlaceEnds() {
        S.term(10, "of RULES wins and loses that are not struck that with the highest PLACE whose TEST holds");
        SundayGame x = Check.gameOf("board 4;piece a at 1 of 2;may a up 1 when all;wins when all;loses when all;wins when not all;");
        x.move(0, 2);
        S.is("loses is the highest that holds", x.played(3), 1);
        x.make(12);
        x.move(0, 2);
        S.is("it is struck", x.played(3), 0);
        x.make(12);
        x.make(11);
        x.move(0, 2);
        S.is("wins is higher", x.played(3), 0);
        x.make(6);
        x.make(12);
        x.move(0, 2);
        S.is("both are struck", x.played(3), NONE);
    }

    private static void promise9Number() {
        S.term(10, "digits to the base FIELDS and 1, the first one the highest, then who as the last one to the base 2");
        S.is("no piece", Check.gameOf("board 9;").played(0), 0);
        S.is("one piece", Check.gameOf("board 9;piece a at 8 of 0;").played(0), 16);
        S.is("two pieces", Check.gameOf("board 9;piece a at 8 of 0;piece b at 7 of 0;").played(0), 174);
        S.is("two on 2", Check.gameOf("board 2;piece a at 1 of 0;piece b at 0 of 0;").played(0), 6);
        SundayGame x = Check.gameOf("board 9;piece a at 0 of 2;piece b at 0 of 2;may a off when all;may b off when all;");
        x.sunday();
        S.is("player 1", x.played(0), 1);
        x.move(0, 9);
        S.is("the first is off", x.played(0), 180);
        x.move(1, 9);
        S.is("both are off", x.played(0), 199);
    }

    // ---- promise 10

    private static void state(SundayGame x, int position, int who, int moves, int winner) {
        S.is("position", x.played(0), position);
        S.is("who", x.played(1), who);
        S.is("moves", x.played(2), moves);
        S.is("winner", x.played(3), winner);
    }

    private static SundayGame playedOut() {
        SundayGame x = Check.gameOf(MEET);
        x.move(0, 1);
        x.move(1, 2);
        x.move(0, 2);
        return x;
    }

    private static void promise10Over() {
        S.promise(10, "when it is over, as it is then, the other one to move");
        state(playedOut(), at(2, 2, 1), 1, 3, 0);
        SundayGame lost = Check.gameOf("board 4;piece a at 1 of 2;may a up 1 when all;loses when all;");
        lost.move(0, 2);
        state(lost, 5, 1, 1, 1);
        SundayGame off = Check.gameOf("board 4;piece a at 1 of 2;may a off when all;wins when all;");
        off.move(0, 4);
        state(off, 9, 1, 1, 0);
    }

    private static void promise10WhoHasWon() {
        S.promise(10, "who has won (3: 0, 1; 2 if it is drawn by STUCK; NONE: it is not over)");
        String text = "board 2;piece a at 0 of 2;may a up 1 when all;stuck ";
        String[] does = {"loses", "draws", "wins"};
        int[] winners = {0, 2, 1};
        for (int i = 0; i < 3; i++) {
            SundayGame x = Check.gameOf(text + does[i] + ";");
            state(x, 0, 0, 0, NONE);
            x.move(0, 1);
            state(x, 3, 1, 1, winners[i]);
            x.sunday();
            state(x, 1, 1, 0, NONE);
            x.move(0, 1);
            state(x, 2, 0, 1, i == 1 ? 2 : 1 - winners[i]);
        }
    }

    private static void promise10StuckAtFirst() {
        S.term(10, "without a LAWFUL MOVE it is STUCK: loses, wins, or it is drawn, as told");
        state(Check.gameOf("board 2;"), 0, 0, 0, 1);
        state(Check.gameOf("board 2;stuck draws;"), 0, 0, 0, 2);
        state(Check.gameOf("board 2;stuck wins;"), 0, 0, 0, 0);
        SundayGame x = Check.gameOf("board 2;stuck wins;");
        x.sunday();
        state(x, 1, 1, 0, 1);
    }

    private static void promise10Others() {
        S.promise(10, "NONE for others, or without FIELDS");
        SundayGame x = Check.gameOf(MEET);
        S.is("4", x.played(4), NONE);
        S.is("-1", x.played(-1), NONE);
        for (int far : FAR) {
            S.is("far", x.played(far), NONE);
        }
        for (int what = 0; what < 4; what++) {
            S.is("without fields " + what, new SundayGame().played(what), NONE);
        }
    }

    private static void promise10Anew() {
        S.term(10, "anew whenever THE SLATE or the SUNDAY becomes another one");
        SundayGame x = Check.gameOf(MEET);
        x.move(0, 1);
        x.make(0);
        S.is("made", x.played(2), 0);
        x.undo();
        x.move(0, 1);
        x.make(0);
        x.undo();
        S.is("undone", x.played(2), 0);
        x.move(0, 1);
        S.is("refused changes", x.make(-1), false);
        S.is("nothing became another one", x.played(2), 1);
        x.undo();
        S.is("refused undo", x.played(2), 1);
        x.sunday();
        S.is("a Sunday without a change", x.played(2), 0);
        S.is("the other one begins", x.played(0), at(0, 3, 1));
    }

    // ---- promises 11 and 12

    private static void refused(SundayGame x, int piece, int goal) {
        int before = x.status(2);
        int position = x.played(0);
        int moves = x.played(2);
        S.is("move " + piece + " to " + goal, x.move(piece, goal), false);
        S.is("nothing is done", x.played(0), position);
        S.is("no move more", x.played(2), moves);
        S.is("a refusal", x.status(2), before + 1);
    }

    private static void promise11NotLawful() {
        S.promise(11, "whether that was LAWFUL (else nothing is done");
        SundayGame x = Check.gameOf("board 9;piece a at 0 of 2;piece b at 1 of 2;may b down 1 when all;may a up 1 when all;"
            + "may a off when all;");
        refused(x, 0, 10);
        refused(x, 2, -10);
        refused(x, 1, -9);
        refused(x, 1, -1);
        refused(x, -1, 11);
        refused(x, -1, 20);
        refused(x, 0, 0);
        refused(x, 0, 2);
        refused(x, 0, -1);
        refused(x, 1, 1);
        refused(x, 1, 9);
        refused(x, 2, 0);
        refused(x, Integer.MIN_VALUE, 1);
        refused(x, Integer.MAX_VALUE, 1);
        refused(x, 0, Integer.MIN_VALUE);
        refused(x, 0, Integer.MAX_VALUE);
        S.is("to 0", x.move(1, 0), true);
        S.is("off", x.move(0, 9), true);
        refused(x, 0, 9);
        refused(x, 0, 1);
        refused(new SundayGame(), 0, 0);
    }

    private static void promise11WhenOver() {
        S.promise(11, "also when it is over");
        SundayGame x = playedOut();
        S.is("by its number there is a move", x.lawful(x.played(0), 0), 11);
        refused(x, 1, 1);
        refused(x, 0, 3);
        SundayGame stuck = Check.gameOf("board 2;");
        refused(stuck, 0, 0);
        SundayGame lost = Check.gameOf("board 4;piece a at 0 of 2;may a up 1 when all;loses when all;");
        lost.move(0, 1);
        refused(lost, 0, 2);
        lost.anew();
        S.is("not over any more", lost.move(0, 1), true);
    }

    private static void promise12TheBeginningAgain() {
        S.promise(12, "PLAYED is THE BEGINNING again.");
        SundayGame x = playedOut();
        x.make(0);
        x.undo();
        x.move(0, 1);
        x.anew();
        state(x, at(0, 3, 0), 0, 0, NONE);
        S.is("it goes on from there", x.move(0, 1), true);
        SundayGame over = playedOut();
        over.anew();
        S.is("it is over no more", over.move(0, 1), true);
        S.is("and can be played again", over.played(3), NONE);
    }

    private static void promise12HowMany() {
        S.promise(12, "How many MOVES there were");
        SundayGame x = playedOut();
        S.is("three", x.anew(), 3);
        state(x, at(0, 3, 0), 0, 0, NONE);
        S.is("none", x.anew(), 0);
        x.move(0, 1);
        x.move(0, 1);
        S.is("one; a refused one is none", x.anew(), 1);
        x.sunday();
        x.move(1, 2);
        S.is("one on the next Sunday", x.anew(), 1);
        S.is("the beginning of this Sunday", x.played(0), at(0, 3, 1));
        S.is("without fields", new SundayGame().anew(), 0);
    }

    // ---- promise 17

    private static void row(SundayGame x, int due, int... codes) {
        Check.feed(x, codes);
        S.is("row of " + codes.length, x.row(), due);
        S.is("the tape goes", x.end(1), false);
    }

    private static void promise17Codes() {
        S.promise(17, "by codes (PIECE times 10 and goal, a byte each; the tape, it goes) from THE BEGINNING");
        SundayGame x = Check.gameOf("board 9;piece a at 0 of 0;piece b at 0 of 1;may a off when all;may b off when all;");
        row(x, NONE, 9, 19);
        row(x, 1, 9, 18);
        row(x, 1, 9, 9);
        row(x, 2, 9, 19, 9);
        x.move(0, 9);
        row(x, NONE, 9, 19);
        row(x, 0, 19);
    }

    private static void promise17FirstNotLawful() {
        S.promise(17, "the first MOVE, from 0 on, that is not LAWFUL");
        SundayGame x = Check.gameOf(MEET);
        row(x, NONE, 1, 12, 2);
        row(x, 0, 12, 1);
        row(x, 0, 2);
        row(x, 1, 1, 2);
        row(x, 1, 1, 11, 2);
        row(x, 2, 1, 12, 1);
        row(x, 0, 0);
        row(x, 0, 20);
        row(x, 0, 255);
        row(new SundayGame(), 0, 1);
        SundayGame most = Check.gameOf("board 2;piece a at 0 of 2;may a up 1 when all;may a down 1 when all;");
        int[] codes = new int[1800];
        for (int i = 0; i < codes.length; i++) {
            codes[i] = 1 - i % 2;
        }
        row(most, NONE, codes);
        codes[1799] = 1;
        row(most, 1799, codes);
    }

    private static void promise17WhenOver() {
        S.promise(17, "(or comes when it is over)");
        row(Check.gameOf(MEET), 3, 1, 12, 2, 11);
        SundayGame stuck = Check.gameOf("board 2;piece a at 0 of 2;may a up 1 when all;");
        row(stuck, NONE, 1);
        row(stuck, 1, 1, 1);
        row(Check.gameOf("board 2;"), 0, 0);
    }

    private static void promise17Empty() {
        S.promise(17, "NONE if all are");
        row(Check.gameOf(MEET), NONE);
        row(Check.gameOf("board 2;"), NONE);
        row(new SundayGame(), NONE);
    }

    private static void promise17NothingIsPlayed() {
        S.promise(17, "Nothing is PLAYED by that");
        SundayGame x = Check.gameOf(MEET);
        x.move(0, 1);
        row(x, NONE, 1, 12);
        row(x, 0, 12);
        state(x, at(1, 3, 1), 1, 1, NONE);
        S.is("no refusal", x.status(2), 0);
        x.sunday();
        row(x, 0, 1, 12);
        row(x, NONE, 12, 1);
        state(x, at(0, 3, 1), 1, 0, NONE);
    }
}
