import java.util.Arrays;

/** Small games of two on a row of fields, whose rules the loser changes from Sunday to Sunday. */
public final class SundayGame {
    public static final int NONE = -1;

    private static final int NO_ANSWER = -2;
    private static final int TAPE_ROOM = 1800;
    private static final int PIECE_ROOM = 2;
    private static final int RULE_ROOM = 12;
    private static final int GOAL_ROOM = 10;
    private static final int POSITION_ROOM = 200;
    /** In a position each rule speaks of one move at most, so there are no more moves than rules. */
    private static final int MOVE_ROOM = RULE_ROOM;
    private static final int CHANGES_OF_PLACE = 6;
    private static final int UNDO_ROOM = 40;
    private static final int RING_ROOM = 12;
    private static final int LIKELY_ROOM = 40;
    private static final int IMAGE_ROOM = 8 + 3 * RULE_ROOM;
    private static final int REFUSAL_KINDS = 6;

    private static final int KIND_MAY = 0;
    private static final int KIND_NOT = 1;
    private static final int KIND_WINS = 2;
    private static final int KIND_LOSES = 3;

    private static final int WAY_UP = 0;
    private static final int WAY_DOWN = 1;
    private static final int WAY_OFF = 2;

    private static final int STUCK_LOSES = 0;
    private static final int STUCK_DRAWS = 1;
    private static final int STUCK_WINS = 2;

    /** They stand where else the position behind a move stands. */
    private static final int MOVER_WINS = -1;
    private static final int MOVER_LOSES = -2;

    /** It stands where else the player stands who has won. */
    private static final int DRAWN_GAME = 2;

    private final Bytes tape = new Bytes(TAPE_ROOM);
    private Game told = new Game();
    private Game spare = new Game();
    private final Reader reader = new Reader(spare);
    private final Slate slate = new Slate();
    private final Spring spring = new Spring();
    private final History history = new History();
    private final Moves moves = new Moves(told);
    private final Values values = new Values(moves);
    private final Values trials = new Values(new Moves(told));
    private final Worths worths = new Worths(told, trials);
    private final Worths laterWorths = new Worths(told, trials);
    private final Slate[] trail = new Slate[RING_ROOM + 1];
    private final Match match = new Match();
    private final Match rowMatch = new Match();
    private final int[] errs = new int[2];
    private final int[] kinds = new int[2];
    private int sunday = 0;
    private final Bytes image = new Bytes(IMAGE_ROOM);
    private final int[] refusals = new int[REFUSAL_KINDS];

    public SundayGame() {
        for (int i = 0; i <= RING_ROOM; i++) {
            trail[i] = new Slate();
        }
        startAnew();
    }

    // ---- the text

    public int feed(int a, int b, int c, int d, int e) {
        if (tape.length + 20 > TAPE_ROOM) {
            refuse(0);
            return NONE;
        }
        tape.putFour(a);
        tape.putFour(b);
        tape.putFour(c);
        tape.putFour(d);
        tape.putFour(e);
        return tape.length;
    }

    public boolean end(int n) {
        if (n < 0 || n > tape.length) {
            refuse(0);
            return false;
        }
        tape.length = n;
        return true;
    }

    public int game() {
        int statements = reader.readGame(tape, spare);
        tape.length = 0;
        if (statements == NONE) {
            refuse(1);
            return NONE;
        }
        Game old = told;
        told = spare;
        spare = old;
        told.numberPositions();
        slate.takeAsTold(told);
        sunday = 0;
        Arrays.fill(errs, 0);
        Arrays.fill(kinds, 0);
        history.count = 0;
        spring.kept = false;
        worths.forget();
        laterWorths.forget();
        startAnew();
        return statements;
    }

    public int fault(int what) {
        if (what == 0) {
            return reader.faultKind;
        }
        return what == 1 ? reader.faultPlace : NONE;
    }

    public int has(int what) {
        switch (what) {
            case 0: return told.fields;
            case 1: return told.pieces;
            case 2: return told.rules;
            case 3: return slate.countStruck();
            case 4: return told.positions;
            case 5: return sunday;
            case 6: return history.count;
            case 7: return told.stuck;
            default: return NONE;
        }
    }

    public int letter(int piece, int k) {
        return told.letterOf(piece, k);
    }

    public int rule(int place, int what) {
        if (!slate.isPlace(place)) {
            return NONE;
        }
        int number = slate.ruleAt(place);
        switch (what) {
            case 0: return number;
            case 1: return slate.kindAt(place, told);
            case 2: return told.pieceOf(number);
            case 3: return told.wayOf(number);
            case 4: return slate.stepAt(place);
            case 5: return slate.isStruck(place) ? 1 : 0;
            case 6: return told.isEver(number) ? 1 : 0;
            default: return NONE;
        }
    }

    // ---- moves

    public int lawful(int position, int k) {
        if (!told.isPosition(position)) {
            return NONE;
        }
        Moves now = movesNow();
        return k == NONE ? now.countOf(position) : now.codeOf(position, k);
    }

    public int played(int what) {
        if (told.fields == 0) {
            return NONE;
        }
        switch (what) {
            case 0: return match.position;
            case 1: return match.position & 1;
            case 2: return match.moveCount;
            case 3: return match.winner(movesNow());
            default: return NONE;
        }
    }

    public boolean move(int piece, int goal) {
        boolean known = piece >= 0 && piece < PIECE_ROOM && goal >= 0 && goal < GOAL_ROOM;
        if (!known || !match.step(movesNow(), told, piece * GOAL_ROOM + goal)) {
            refuse(2);
            return false;
        }
        return true;
    }

    public int anew() {
        int before = match.moveCount;
        match.begin(beginningNow());
        return before;
    }

    // ---- what it is worth

    public int value(int position, int what) {
        if (!told.isPosition(position)) {
            return NO_ANSWER;
        }
        Values now = valuesNow();
        switch (what) {
            case 0: return now.worthOf(position);
            case 1: return now.stepsOf(position);
            case 2: return moves.codeOf(position, now.bestMoveOf(position));
            default: return NO_ANSWER;
        }
    }

    public int worth() {
        return told.fields == 0 ? NO_ANSWER : worthsOf(slate).worthBy(NONE, starterNow());
    }

    public int hat() {
        if (told.fields == 0) {
            return NONE;
        }
        int winner = match.winner(movesNow());
        if (winner != NONE) {
            return winner == DRAWN_GAME ? NONE : winner;
        }
        int worth = valuesNow().worthOf(match.position);
        int who = match.position & 1;
        if (worth == 0) {
            return NONE;
        }
        return worth > 0 ? who : 1 - who;
    }

    public int longest() {
        if (told.fields == 0) {
            return NONE;
        }
        movesNow().listFrom(beginningNow());
        return values.longestFrom(beginningNow());
    }

    public int row() {
        Moves now = movesNow();
        int wrong = NONE;
        rowMatch.begin(beginningNow());
        for (int i = 0; i < tape.length && wrong == NONE; i++) {
            if (!rowMatch.step(now, told, tape.at(i))) {
                wrong = i;
            }
        }
        tape.length = 0;
        return wrong;
    }

    // ---- who errs

    public int errs(int player, int part) {
        if (!isPlayer(player) || part < 0 || part > 100) {
            refuse(4);
            return NONE;
        }
        int before = errs[player];
        errs[player] = part;
        return before;
    }

    public int likely(int n) {
        if (told.fields == 0 || n < 0 || n > LIKELY_ROOM) {
            return NONE;
        }
        Values now = valuesNow();
        moves.listFrom(beginningNow());
        return now.chanceFrom(beginningNow(), n, errs);
    }

    // ---- changes

    public int change(int k) {
        int count = 0;
        for (int code = 0; code < slate.codeCount(); code++) {
            if (slate.allows(told, code)) {
                if (count == k) {
                    return code;
                }
                count++;
            }
        }
        return k == NONE ? count : NONE;
    }

    public int outcome(int code) {
        if (told.fields == 0 || !slate.allows(told, code)) {
            return NO_ANSWER;
        }
        return worthsOf(slate).worthBy(code, starterNow());
    }

    public int turning(int what) {
        if (told.fields == 0 || what < 0 || what > 2) {
            return NONE;
        }
        Worths now = worthsOf(slate);
        int before = now.worthBy(NONE, starterNow());
        int turned = 0;
        int same = 0;
        int shortest = NONE;
        for (int code = 0; code < slate.codeCount(); code++) {
            int after = slate.allows(told, code) ? now.worthBy(code, starterNow()) : NO_ANSWER;
            if (after == before) {
                same++;
            } else if (after == -before) {
                turned++;
                shortest = shortest == NONE || wordsOf(code) < wordsOf(shortest) ? code : shortest;
            }
        }
        if (what == 0) {
            return turned;
        }
        return what == 1 ? same : shortest;
    }

    public boolean make(int code) {
        if (!slate.allows(told, code)) {
            refuse(3);
            return false;
        }
        history.applyTo(slate, code);
        startAnew();
        return true;
    }

    public boolean undo() {
        if (history.count == 0) {
            refuse(3);
            return false;
        }
        history.takeBackFrom(slate);
        startAnew();
        return true;
    }

    // ---- Sundays

    public int kind(int player, int kind) {
        if (!isPlayer(player) || kind < 0 || kind > 2) {
            refuse(4);
            return NONE;
        }
        int before = kinds[player];
        kinds[player] = kind;
        return before;
    }

    public int sunday() {
        if (told.fields == 0) {
            return NO_ANSWER;
        }
        Worths now = worthsOf(slate);
        int code = now.choiceOf(now.loserOf(starterNow()), kinds, 1 - starterNow());
        if (code != NONE) {
            history.applyTo(slate, code);
        }
        sunday++;
        startAnew();
        return code;
    }

    public int would(int player) {
        if (told.fields == 0 || !isPlayer(player)) {
            return NO_ANSWER;
        }
        return worthsOf(slate).choiceOf(player, kinds, 1 - starterNow());
    }

    public int pays(int n) {
        if (told.fields == 0 || n < 0 || n > 100) {
            return NONE;
        }
        int starter = starterNow();
        int other = 1 - starter;
        Worths now = worthsOf(slate);
        int ofOther = now.choiceOf(other, kinds, other);
        int ofStarter = now.choiceOf(starter, kinds, other);
        // The other one begins on the next Sunday, so what that is worth for it counts against the starter.
        int whenWon = -now.worthBy(ofOther, other);
        int whenLost = -now.worthBy(ofStarter, other);
        return n + whenWon < whenLost - n ? 1 : 0;
    }

    public int ring(int n, int what) {
        if (told.fields == 0 || n < 1 || n > RING_ROOM || what < 0 || what > 1) {
            return NONE;
        }
        trail[0].copyFrom(slate);
        for (int k = 1; k <= n; k++) {
            int starter = (sunday + k - 1) & 1;
            Worths then = worthsOf(trail[k - 1]);
            int code = then.choiceOf(then.loserOf(starter), kinds, 1 - starter);
            trail[k].copyFrom(trail[k - 1]);
            if (code != NONE) {
                trail[k].apply(code);
            }
            for (int before = k - 2; before >= 0; before -= 2) {
                if (trail[before].isLike(trail[k])) {
                    return what == 0 ? k - before : before;
                }
            }
        }
        return NONE;
    }

    // ---- the spring

    public int spring() {
        spring.kept = true;
        spring.slate.copyFrom(slate);
        return slate.size;
    }

    public int parts(int what) {
        if (told.fields == 0 || !spring.kept || what < 0 || what > 1) {
            return NONE;
        }
        trials.moves.prepare(told, spring.slate);
        trials.moves.layOut(false);
        spring.compare(movesNow(), trials.moves, beginningNow());
        return what == 0 ? spring.partingMoves : spring.partingPosition;
    }

    // ---- images

    public int image() {
        image.length = 0;
        image.put(slate.size);
        for (int place = 0; place < slate.size; place++) {
            image.put(slate.ruleAt(place));
            image.put(slate.flagsAt(place));
            image.put(slate.stepAt(place));
        }
        image.put(sunday >> 8);
        image.put(sunday);
        image.put(kinds[0]);
        image.put(kinds[1]);
        image.put(errs[0]);
        image.put(errs[1]);
        image.put(image.checkOfFirst(image.length));
        return image.length;
    }

    public int octet(int k) {
        return image.at(k);
    }

    public boolean on() {
        boolean sound = tapeIsImage();
        if (sound) {
            takeImage();
        } else {
            refuse(5);
        }
        tape.length = 0;
        return sound;
    }

    public int status(int what) {
        return what >= 0 && what < REFUSAL_KINDS ? refusals[what] : NONE;
    }

    // ---- what several calls share

    private void refuse(int group) {
        if (group >= 0 && group < REFUSAL_KINDS) {
            refusals[group]++;
        }
    }

    private static boolean isPlayer(int player) {
        return player == 0 || player == 1;
    }

    private static int wordsOf(int code) {
        return code % CHANGES_OF_PLACE == Slate.SWAP ? 2 : 1;
    }

    private int starterNow() {
        return sunday & 1;
    }

    private int beginningNow() {
        return told.beginningOf(starterNow());
    }

    /** Whatever was reckoned from the slate, or played, holds no more. */
    private void startAnew() {
        moves.prepare(told, slate);
        values.solved = false;
        match.begin(beginningNow());
    }

    private Moves movesNow() {
        if (!moves.laidAll) {
            moves.layOut(true);
        }
        return moves;
    }

    private Values valuesNow() {
        if (!values.solved) {
            movesNow().listAll();
            values.solve();
        }
        return values;
    }

    /** What is known of the slate as it is now is kept, while others are looked at. */
    private Worths worthsOf(Slate which) {
        Worths found = which.isLike(slate) ? worths : laterWorths;
        found.referTo(told, which);
        return found;
    }

    // ---- reading an image

    private boolean tapeIsImage() {
        int length = 8 + 3 * told.rules;
        if (told.fields == 0 || tape.length != length || tape.at(0) != told.rules) {
            return false;
        }
        return tape.at(length - 1) == tape.checkOfFirst(length - 1) && tapeHasRules() && tapeHasPlayers();
    }

    private boolean tapeHasRules() {
        int met = 0;
        for (int place = 0; place < told.rules; place++) {
            int number = tape.at(1 + 3 * place);
            if (number >= told.rules || (met >> number & 1) != 0 || !tapeHasPlace(place, number)) {
                return false;
            }
            met |= 1 << number;
        }
        return true;
    }

    private boolean tapeHasPlace(int place, int number) {
        int flags = tape.at(2 + 3 * place);
        int step = tape.at(3 + 3 * place);
        int toldStep = told.stepOf(number);
        if (told.isEver(number)) {
            return number == place && flags == 0 && step == toldStep;
        }
        return flags <= 3 && (toldStep == 0 ? step == 0 : step >= 1 && step <= 3);
    }

    private boolean tapeHasPlayers() {
        int from = 3 + 3 * told.rules;
        return tape.at(from) <= 2 && tape.at(from + 1) <= 2 && tape.at(from + 2) <= 100 && tape.at(from + 3) <= 100;
    }

    private void takeImage() {
        for (int place = 0; place < told.rules; place++) {
            slate.setPlace(place, tape.at(1 + 3 * place), tape.at(2 + 3 * place), tape.at(3 + 3 * place));
        }
        int from = 1 + 3 * told.rules;
        sunday = tape.at(from) * 256 + tape.at(from + 1);
        kinds[0] = tape.at(from + 2);
        kinds[1] = tape.at(from + 3);
        errs[0] = tape.at(from + 4);
        errs[1] = tape.at(from + 5);
        history.count = 0;
        startAnew();
    }

    /** A row of bytes with room for so many. */
    private static final class Bytes {
        int length = 0;
        private final int[] row;

        Bytes(int room) {
            row = new int[Math.max(room, 0)];
        }

        void put(int octet) {
            if (length >= 0 && length < row.length) {
                row[length] = octet & 255;
                length++;
            }
        }

        void putFour(int number) {
            for (int shift = 24; shift >= 0; shift -= 8) {
                put(number >>> shift);
            }
        }

        int at(int k) {
            return k >= 0 && k < length && k < row.length ? row[k] : NONE;
        }

        int checkOfFirst(int count) {
            int check = 37;
            for (int i = 0; i < count && i < row.length; i++) {
                check = (7 * check + row[i]) % 223;
            }
            return check;
        }
    }

    /** The tape cut into words, numbers and signs, up to its end or to the first byte that is in none. */
    private static final class Tokens {
        static final int END = 0;
        static final int BAD = 1;
        static final int NAME = 2;
        static final int NUMBER = 3;
        // The type of a sign is its byte; own words have types of their own above all bytes.
        static final int BOARD = 256;
        static final int PIECE = 257;
        static final int AT = 258;
        static final int OF = 259;
        static final int EVER = 260;
        static final int STUCK = 261;
        static final int LOSES = 262;
        static final int DRAWS = 263;
        static final int WINS = 264;
        static final int MAY = 265;
        static final int NOT = 266;
        static final int UP = 267;
        static final int DOWN = 268;
        static final int OFF = 269;
        static final int WHEN = 270;
        static final int OR = 271;
        static final int AND = 272;
        static final int ALL = 273;
        static final int SPOT = 274;
        static final int GOAL = 275;
        static final int WHO = 276;
        static final int MIN = 277;
        static final int MAX = 278;
        private static final int OWN_COUNT = 23;
        private static final String OWN_WORDS =
            "board piece at of ever stuck loses draws wins may not up down off when or and all spot goal who min max ";
        private static final String SIGNS = ";,()[]<>=+-*/%";
        private static final int WORD_ROOM = 6;
        private static final int LETTER_BITS = 5;
        private static final int NUMBER_ROOM = 4;
        /** Each byte may be a token, and the end is one. */
        private static final int ROOM = TAPE_ROOM + 1;

        private final int[] ownCodes = new int[OWN_COUNT];
        final int[] types = new int[ROOM];
        final int[] places = new int[ROOM];
        /** A number, or a word packed into one: of words, too, no two unlike ones have the same. */
        final int[] contents = new int[ROOM];
        int count = 0;
        private int next = 0;

        Tokens() {
            int found = 0;
            int k = 0;
            for (int i = 0; i < OWN_WORDS.length() && found < OWN_COUNT; i++) {
                char c = OWN_WORDS.charAt(i);
                if (c == ' ') {
                    found++;
                    k = 0;
                } else {
                    ownCodes[found] = withLetter(ownCodes[found], k, c);
                    k++;
                }
            }
        }

        void cut(Bytes tape) {
            count = 0;
            next = 0;
            int type = NONE;
            for (int i = 0; i < ROOM && type != END && type != BAD; i++) {
                int before = next;
                boolean joins = type == NUMBER || type == NAME || type >= BOARD;
                while (next < tape.length && isBlank(tape.at(next))) {
                    next++;
                }
                type = cutOne(tape, joins && next == before);
            }
        }

        private int cutOne(Bytes tape, boolean joined) {
            int c = tape.at(next);
            if (c == NONE) {
                return add(END, next, 0);
            }
            boolean letter = isLetter(c);
            if (joined && (letter || isDigit(c))) {
                return add(BAD, next, 0);
            }
            if (letter) {
                return cutWord(tape);
            }
            if (isDigit(c)) {
                return cutNumber(tape);
            }
            next++;
            return add(SIGNS.indexOf((char) c) >= 0 ? c : BAD, next - 1, 0);
        }

        private int cutWord(Bytes tape) {
            int from = next;
            int word = 0;
            while (next < tape.length && isLetter(tape.at(next))) {
                if (next - from == WORD_ROOM) {
                    return add(BAD, next, 0);
                }
                word = withLetter(word, next - from, tape.at(next));
                next++;
            }
            int type = NAME;
            for (int i = 0; i < OWN_COUNT; i++) {
                if (ownCodes[i] == word) {
                    type = BOARD + i;
                }
            }
            return add(type, from, word);
        }

        private int cutNumber(Bytes tape) {
            int from = next;
            int number = 0;
            while (next < tape.length && isDigit(tape.at(next))) {
                if (next - from == NUMBER_ROOM) {
                    return add(BAD, next, 0);
                }
                number = number * 10 + tape.at(next) - '0';
                next++;
            }
            return add(NUMBER, from, number);
        }

        private int add(int type, int place, int content) {
            if (count < ROOM) {
                types[count] = type;
                places[count] = place;
                contents[count] = content;
                count++;
            }
            return type;
        }

        private static int withLetter(int word, int k, int letter) {
            return word | letter - 'a' + 1 << LETTER_BITS * (WORD_ROOM - 1 - k);
        }

        static int letterOf(int word, int k) {
            int letter = k >= 0 && k < WORD_ROOM ? word >> LETTER_BITS * (WORD_ROOM - 1 - k) & 31 : 0;
            return letter == 0 ? NONE : letter + 'a' - 1;
        }

        private static boolean isBlank(int c) {
            return c == 10 || c == 32;
        }

        private static boolean isLetter(int c) {
            return c >= 'a' && c <= 'z';
        }

        private static boolean isDigit(int c) {
            return c >= '0' && c <= '9';
        }
    }

    /** Reads the tape as a game, up to its first fault. */
    private static final class Reader {
        private static final int BAD_TEXT = 1;
        private static final int NAME_TWICE = 2;
        private static final int NO_PIECE = 3;
        private static final int BAD_NUMBER = 4;
        private static final int TOO_MANY = 5;
        private static final int BRACKET_ROOM = 8;

        int faultKind = 0;
        int faultPlace = NONE;
        private final Tokens tokens = new Tokens();
        private int cursor = 0;
        private Game game;
        private int openBrackets = 0;

        Reader(Game first) {
            game = first;
        }

        /** How many statements there are; NONE with a fault, and the game is good for nothing then. */
        int readGame(Bytes tape, Game target) {
            game = target;
            game.clear();
            faultKind = 0;
            faultPlace = NONE;
            openBrackets = 0;
            cursor = 0;
            tokens.cut(tape);
            readBoard();
            take(';');
            int statements = 1;
            for (int i = 0; i < TAPE_ROOM && faultKind == 0 && type() != Tokens.END; i++) {
                readStatement();
                take(';');
                statements++;
            }
            return faultKind == 0 ? statements : NONE;
        }

        private int type() {
            return cursor >= 0 && cursor < tokens.count ? tokens.types[cursor] : Tokens.BAD;
        }

        private int content() {
            return cursor >= 0 && cursor < tokens.count ? tokens.contents[cursor] : 0;
        }

        private void step() {
            if (cursor + 1 < tokens.count) {
                cursor++;
            }
        }

        /** The first fault stays; the last token, to which it goes then, is one that nothing asks for. */
        private void fail(int kindOfFault) {
            if (faultKind == 0) {
                faultKind = kindOfFault;
                faultPlace = cursor >= 0 && cursor < tokens.count ? tokens.places[cursor] : NONE;
            }
            cursor = tokens.count - 1;
        }

        private void take(int wanted) {
            if (type() == wanted) {
                step();
            } else {
                fail(BAD_TEXT);
            }
        }

        private int takeNumber(int least, int most) {
            int number = content();
            if (type() != Tokens.NUMBER) {
                fail(BAD_TEXT);
            } else if (number < least || number > most) {
                fail(BAD_NUMBER);
            } else {
                step();
            }
            return number;
        }

        // ---- statements

        private void readBoard() {
            take(Tokens.BOARD);
            game.fields = takeNumber(2, GOAL_ROOM - 1);
        }

        private void readStatement() {
            if (type() == Tokens.PIECE) {
                readPiece();
            } else if (type() == Tokens.STUCK) {
                readStuck();
            } else if (type() == Tokens.EVER || kindTold() != NONE) {
                readRule();
            } else {
                fail(BAD_TEXT);
            }
        }

        private void readPiece() {
            if (game.pieces == PIECE_ROOM) {
                fail(TOO_MANY);
            }
            take(Tokens.PIECE);
            int name = content();
            if (type() == Tokens.NAME && game.pieceNamed(name) != NONE) {
                fail(NAME_TWICE);
            }
            take(Tokens.NAME);
            take(Tokens.AT);
            int field = takeNumber(0, game.fields - 1);
            take(Tokens.OF);
            int owner = takeNumber(0, 2);
            if (faultKind == 0) {
                game.addPiece(name, field, owner);
            }
        }

        private void readStuck() {
            take(Tokens.STUCK);
            if (type() == Tokens.LOSES) {
                game.stuck = STUCK_LOSES;
            } else if (type() == Tokens.DRAWS) {
                game.stuck = STUCK_DRAWS;
            } else if (type() == Tokens.WINS) {
                game.stuck = STUCK_WINS;
            } else {
                fail(BAD_TEXT);
            }
            step();
        }

        private void readRule() {
            if (game.rules == RULE_ROOM) {
                fail(TOO_MANY);
            }
            boolean ever = type() == Tokens.EVER;
            if (ever) {
                step();
            }
            int kindOfRule = kindTold();
            if (kindOfRule == NONE) {
                fail(BAD_TEXT);
                return;
            }
            step();
            game.addRule(kindOfRule, ever);
            if (kindOfRule == KIND_MAY || kindOfRule == KIND_NOT) {
                readMove();
            }
            take(Tokens.WHEN);
            readTest();
            game.tests.close();
        }

        private int kindTold() {
            switch (type()) {
                case Tokens.MAY: return KIND_MAY;
                case Tokens.NOT: return KIND_NOT;
                case Tokens.WINS: return KIND_WINS;
                case Tokens.LOSES: return KIND_LOSES;
                default: return NONE;
            }
        }

        private void readMove() {
            int piece = takeNameOfPiece();
            int way = wayTold();
            if (way == NONE) {
                fail(BAD_TEXT);
                return;
            }
            step();
            game.setMoveOfLatest(piece, way, way == WAY_OFF ? 0 : takeNumber(1, 3));
        }

        private int wayTold() {
            switch (type()) {
                case Tokens.UP: return WAY_UP;
                case Tokens.DOWN: return WAY_DOWN;
                case Tokens.OFF: return WAY_OFF;
                default: return NONE;
            }
        }

        private int takeNameOfPiece() {
            int piece = game.pieceNamed(content());
            if (type() != Tokens.NAME) {
                fail(BAD_TEXT);
            } else if (piece == NONE) {
                fail(NO_PIECE);
            } else {
                step();
            }
            return piece;
        }

        // ---- tests; only behind an open bracket, of which there are eight at most, do they come round again

        private void readTest() {
            readBoth();
            for (int i = 0; i < TAPE_ROOM && type() == Tokens.OR; i++) {
                step();
                readBoth();
                game.tests.emit(Tests.OR);
            }
        }

        private void readBoth() {
            readFact();
            for (int i = 0; i < TAPE_ROOM && type() == Tokens.AND; i++) {
                step();
                readFact();
                game.tests.emit(Tests.AND);
            }
        }

        private void readFact() {
            boolean denied = false;
            for (int i = 0; i < TAPE_ROOM && type() == Tokens.NOT; i++) {
                step();
                denied = !denied;
            }
            if (type() == '[') {
                openBracket('[');
                readTest();
                take(']');
                openBrackets--;
            } else if (type() == Tokens.ALL) {
                step();
                game.tests.emit(1);
            } else {
                readSum();
                int op = comparisonTold();
                if (op == NONE) {
                    fail(BAD_TEXT);
                } else {
                    step();
                    readSum();
                    game.tests.emit(op);
                }
            }
            if (denied) {
                game.tests.emit(Tests.NOT);
            }
        }

        private void openBracket(int sign) {
            if (type() != sign) {
                fail(BAD_TEXT);
            } else if (openBrackets >= BRACKET_ROOM) {
                fail(TOO_MANY);
            } else {
                step();
            }
            openBrackets++;
        }

        private int comparisonTold() {
            switch (type()) {
                case '<': return Tests.LESS;
                case '>': return Tests.MORE;
                case '=': return Tests.SAME;
                default: return NONE;
            }
        }

        private void readSum() {
            readProduct();
            for (int i = 0; i < TAPE_ROOM && (type() == '+' || type() == '-'); i++) {
                int op = type() == '+' ? Tests.PLUS : Tests.MINUS;
                step();
                readProduct();
                game.tests.emit(op);
            }
        }

        private void readProduct() {
            readPart();
            for (int i = 0; i < TAPE_ROOM && factorTold() != NONE; i++) {
                int op = factorTold();
                step();
                readPart();
                game.tests.emit(op);
            }
        }

        private int factorTold() {
            switch (type()) {
                case '*': return Tests.TIMES;
                case '/': return Tests.BY;
                case '%': return Tests.REST;
                default: return NONE;
            }
        }

        private void readPart() {
            switch (type()) {
                case '(':
                    openBracket('(');
                    readSum();
                    take(')');
                    openBrackets--;
                    break;
                case Tokens.NUMBER:
                    game.tests.emit(content());
                    step();
                    break;
                case Tokens.SPOT:
                    game.tests.emit(Tests.SPOT);
                    step();
                    break;
                case Tokens.GOAL:
                    game.tests.emit(Tests.GOAL);
                    step();
                    break;
                case Tokens.WHO:
                    game.tests.emit(Tests.WHO);
                    step();
                    break;
                case Tokens.MIN:
                    readPair(Tests.MIN);
                    break;
                case Tokens.MAX:
                    readPair(Tests.MAX);
                    break;
                case Tokens.NAME:
                    game.tests.emit(takeNameOfPiece() == 0 ? Tests.FIRST : Tests.SECOND);
                    break;
                default:
                    fail(BAD_TEXT);
                    break;
            }
        }

        private void readPair(int op) {
            step();
            openBracket('(');
            readSum();
            take(',');
            readSum();
            take(')');
            openBrackets--;
            game.tests.emit(op);
        }
    }

    /** The tests of all rules, each with its operands ahead of what is done with them. */
    private static final class Tests {
        // Below NONE, so that NONE is no operation; what is not below 0 is a number.
        static final int PLUS = -2;
        static final int MINUS = -3;
        static final int TIMES = -4;
        static final int BY = -5;
        static final int REST = -6;
        static final int MIN = -7;
        static final int MAX = -8;
        static final int LESS = -9;
        static final int MORE = -10;
        static final int SAME = -11;
        static final int AND = -12;
        static final int OR = -13;
        static final int NOT = -14;
        static final int SPOT = -15;
        static final int GOAL = -16;
        static final int WHO = -17;
        static final int FIRST = -18;
        static final int SECOND = -19;
        private static final int MOST = 1000000;
        /** Eight brackets hold back three operands each, and behind them come no more than six. */
        private static final int STACK_ROOM = 64;

        private final int[] code = new int[TAPE_ROOM];
        /** The test of rule r is from ends[r] up to ends[r + 1]. */
        private final int[] ends = new int[RULE_ROOM + 1];
        private int length = 0;
        private int count = 0;
        private final int[] stack = new int[STACK_ROOM];

        void clear() {
            length = 0;
            count = 0;
        }

        void emit(int op) {
            if (length < TAPE_ROOM) {
                code[length] = op;
                length++;
            }
        }

        void close() {
            if (count < RULE_ROOM) {
                count++;
                ends[count] = length;
            }
        }

        /** Spot, goal, who, and where both pieces are, are what the test asks about. */
        boolean evaluate(int rule, int spot, int goal, int who, int first, int second) {
            if (rule < 0 || rule >= count) {
                return false;
            }
            int depth = 0;
            for (int i = ends[rule]; i < ends[rule + 1]; i++) {
                int op = code[i];
                if (op >= 0 || op <= SPOT) {
                    if (depth < STACK_ROOM) {
                        stack[depth] = op >= 0 ? op : op == SPOT ? spot : op == GOAL ? goal : op == WHO ? who
                            : op == FIRST ? first : second;
                        depth++;
                    }
                } else if (op == NOT && depth >= 1) {
                    stack[depth - 1] = 1 - stack[depth - 1];
                } else if (depth >= 2) {
                    depth--;
                    stack[depth - 1] = combine(op, stack[depth - 1], stack[depth]);
                }
            }
            return depth > 0 && stack[0] != 0;
        }

        private static int combine(int op, long a, long b) {
            long result = 0;
            switch (op) {
                case PLUS: result = a + b; break;
                case MINUS: result = a - b; break;
                case TIMES: result = a * b; break;
                case BY: result = b == 0 ? 0 : Math.floorDiv(a, b); break;
                case REST: result = b == 0 ? 0 : Math.floorMod(a, b); break;
                case MIN: result = Math.min(a, b); break;
                case MAX: result = Math.max(a, b); break;
                case LESS: result = a < b ? 1 : 0; break;
                case MORE: result = a > b ? 1 : 0; break;
                case SAME: result = a == b ? 1 : 0; break;
                case AND: result = a & b; break;
                default: result = a | b; break;
            }
            return (int) Math.max(-MOST, Math.min(MOST, result));
        }
    }

    /** What the text tells, and what follows from it whatever the slate is. */
    private static final class Game {
        int fields = 0;
        int pieces = 0;
        int rules = 0;
        int positions = 0;
        int stuck = STUCK_LOSES;
        final Tests tests = new Tests();
        private final int[] names = new int[PIECE_ROOM];
        private final int[] starts = new int[PIECE_ROOM];
        private final int[] owners = new int[PIECE_ROOM];
        private final int[] kindsTold = new int[RULE_ROOM];
        private final int[] piecesTold = new int[RULE_ROOM];
        private final int[] waysTold = new int[RULE_ROOM];
        private final int[] stepsTold = new int[RULE_ROOM];
        private final boolean[] evers = new boolean[RULE_ROOM];
        /** By how much a position's number grows with a piece's field. */
        private final int[] weights = new int[PIECE_ROOM];
        private final int[] spots = new int[POSITION_ROOM * PIECE_ROOM];
        /** Of each move: bit r whether the test of rule r holds, bit RULE_ROOM + r whether that is known. */
        private final int[] truths = new int[POSITION_ROOM * PIECE_ROOM * GOAL_ROOM];

        // ---- telling it

        void clear() {
            fields = 0;
            pieces = 0;
            rules = 0;
            positions = 0;
            stuck = STUCK_LOSES;
            tests.clear();
        }

        void addPiece(int name, int field, int owner) {
            if (pieces < PIECE_ROOM) {
                names[pieces] = name;
                starts[pieces] = field;
                owners[pieces] = owner;
                pieces++;
            }
        }

        void addRule(int kindOfRule, boolean ever) {
            if (rules < RULE_ROOM) {
                kindsTold[rules] = kindOfRule;
                evers[rules] = ever;
                piecesTold[rules] = NONE;
                waysTold[rules] = NONE;
                stepsTold[rules] = 0;
                rules++;
            }
        }

        void setMoveOfLatest(int piece, int way, int step) {
            if (rules > 0) {
                piecesTold[rules - 1] = piece;
                waysTold[rules - 1] = way;
                stepsTold[rules - 1] = step;
            }
        }

        void numberPositions() {
            Arrays.fill(truths, 0);
            int firstCount = pieces > 0 ? fields + 1 : 1;
            int secondCount = pieces > 1 ? fields + 1 : 1;
            weights[0] = 2 * secondCount;
            weights[1] = 2;
            positions = 0;
            for (int first = 0; first < firstCount; first++) {
                for (int second = 0; second < secondCount; second++) {
                    for (int who = 0; who < 2 && positions < POSITION_ROOM; who++) {
                        spots[positions * PIECE_ROOM] = first;
                        spots[positions * PIECE_ROOM + 1] = second;
                        positions++;
                    }
                }
            }
        }

        // ---- asking about it

        boolean isPosition(int position) {
            return position >= 0 && position < positions;
        }

        boolean isRule(int number) {
            return number >= 0 && number < rules;
        }

        int kindOf(int number) {
            return isRule(number) ? kindsTold[number] : NONE;
        }

        int pieceOf(int number) {
            return isRule(number) ? piecesTold[number] : NONE;
        }

        int wayOf(int number) {
            return isRule(number) ? waysTold[number] : NONE;
        }

        int stepOf(int number) {
            return isRule(number) ? stepsTold[number] : 0;
        }

        boolean isEver(int number) {
            return isRule(number) && evers[number];
        }

        int pieceNamed(int name) {
            for (int piece = 0; piece < pieces; piece++) {
                if (names[piece] == name) {
                    return piece;
                }
            }
            return NONE;
        }

        int letterOf(int piece, int k) {
            return piece >= 0 && piece < pieces ? Tokens.letterOf(names[piece], k) : NONE;
        }

        int beginningOf(int starter) {
            int position = starter;
            for (int piece = 0; piece < pieces; piece++) {
                position += starts[piece] * weights[piece];
            }
            return position;
        }

        /** The field of a piece that the one who is to move may try to move; NONE of others. */
        int spotToLeave(int position, int piece) {
            if (!isPosition(position) || piece < 0 || piece >= pieces) {
                return NONE;
            }
            int spot = spots[position * PIECE_ROOM + piece];
            boolean owned = owners[piece] == 2 || owners[piece] == (position & 1);
            return owned && spot < fields ? spot : NONE;
        }

        int fieldOrNone(int field) {
            return field >= 0 && field < fields ? field : NONE;
        }

        int positionBehind(int position, int piece, int goal) {
            if (!isPosition(position) || piece < 0 || piece >= pieces) {
                return position;
            }
            int spot = spots[position * PIECE_ROOM + piece];
            return (position + (goal - spot) * weights[piece]) ^ 1;
        }

        int winnerWhenStuck(int who) {
            if (stuck == STUCK_DRAWS) {
                return DRAWN_GAME;
            }
            return stuck == STUCK_WINS ? who : 1 - who;
        }

        /** No change of the slate changes a test, so each is reckoned once for each move. */
        boolean holds(int number, int position, int piece, int goal) {
            boolean known = isRule(number) && isPosition(position);
            if (!known || piece < 0 || piece >= pieces || goal < 0 || goal >= GOAL_ROOM) {
                return false;
            }
            int slot = (position * PIECE_ROOM + piece) * GOAL_ROOM + goal;
            int bit = 1 << number;
            if ((truths[slot] & bit << RULE_ROOM) == 0) {
                int first = spots[position * PIECE_ROOM];
                int second = spots[position * PIECE_ROOM + 1];
                int spot = piece == 0 ? first : second;
                boolean behind = kindsTold[number] >= KIND_WINS;
                first = behind && piece == 0 ? goal : first;
                second = behind && piece == 1 ? goal : second;
                boolean truth = tests.evaluate(number, spot, goal, position & 1, first, second);
                truths[slot] |= bit << RULE_ROOM | (truth ? bit : 0);
            }
            return (truths[slot] & bit) != 0;
        }
    }

    /** Which rule is in which place, and what has become of it. */
    private static final class Slate {
        static final int STRIKE = 0;
        static final int TURN = 1;
        static final int SWAP = 5;
        private static final int STRUCK = 1;
        private static final int TURNED = 2;

        int size = 0;
        /** Of each place 16 times the rule, 4 times its N, and its flags. */
        private final int[] places = new int[RULE_ROOM];

        void takeAsTold(Game game) {
            size = game.rules;
            for (int place = 0; place < size && place < RULE_ROOM; place++) {
                setPlace(place, place, 0, game.stepOf(place));
            }
        }

        void copyFrom(Slate other) {
            size = other.size;
            System.arraycopy(other.places, 0, places, 0, RULE_ROOM);
        }

        boolean isLike(Slate other) {
            boolean like = size == other.size;
            for (int place = 0; place < size && place < RULE_ROOM && like; place++) {
                like = places[place] == other.places[place];
            }
            return like;
        }

        boolean isPlace(int place) {
            return place >= 0 && place < size && place < RULE_ROOM;
        }

        void setPlace(int place, int rule, int flags, int step) {
            setPacked(place, rule * 16 + step * 4 + flags);
        }

        void setPacked(int place, int packed) {
            if (isPlace(place)) {
                places[place] = packed;
            }
        }

        int packedAt(int place) {
            return isPlace(place) ? places[place] : 0;
        }

        int ruleAt(int place) {
            return packedAt(place) >> 4;
        }

        int stepAt(int place) {
            return packedAt(place) >> 2 & 3;
        }

        int flagsAt(int place) {
            return packedAt(place) & 3;
        }

        boolean isStruck(int place) {
            return (packedAt(place) & STRUCK) != 0;
        }

        /** May and not, wins and loses are neighbours, so that a kind turned about has its last bit turned. */
        int kindAt(int place, Game game) {
            int packed = packedAt(place);
            int kindOfRule = game.kindOf(packed >> 4);
            return (packed & TURNED) != 0 ? kindOfRule ^ 1 : kindOfRule;
        }

        int countStruck() {
            int count = 0;
            for (int place = 0; place < size; place++) {
                count += isStruck(place) ? 1 : 0;
            }
            return count;
        }

        int codeCount() {
            return size * CHANGES_OF_PLACE;
        }

        boolean allows(Game game, int code) {
            if (code < 0 || code >= codeCount()) {
                return false;
            }
            int place = code / CHANGES_OF_PLACE;
            int deed = code % CHANGES_OF_PLACE;
            if (game.isEver(ruleAt(place))) {
                return false;
            }
            if (deed == SWAP) {
                return place + 1 < size && !game.isEver(ruleAt(place + 1));
            }
            int step = stepAt(place);
            return deed == STRIKE || deed == TURN || (step != 0 && step != deed - 1);
        }

        void apply(int code) {
            int place = code / CHANGES_OF_PLACE;
            int deed = code % CHANGES_OF_PLACE;
            int packed = packedAt(place);
            if (deed == STRIKE) {
                setPacked(place, packed ^ STRUCK);
            } else if (deed == TURN) {
                setPacked(place, packed ^ TURNED);
            } else if (deed == SWAP) {
                setPacked(place, packedAt(place + 1));
                setPacked(place + 1, packed);
            } else {
                setPlace(place, ruleAt(place), flagsAt(place), deed - 1);
            }
        }
    }

    /** The changes that can be undone. */
    private static final class History {
        int count = 0;
        private final int[] codes = new int[UNDO_ROOM];
        private final int[] before = new int[UNDO_ROOM];

        void applyTo(Slate slate, int code) {
            if (count >= UNDO_ROOM) {
                System.arraycopy(codes, 1, codes, 0, UNDO_ROOM - 1);
                System.arraycopy(before, 1, before, 0, UNDO_ROOM - 1);
                count = UNDO_ROOM - 1;
            }
            codes[count] = code;
            before[count] = slate.packedAt(code / CHANGES_OF_PLACE);
            count++;
            slate.apply(code);
        }

        void takeBackFrom(Slate slate) {
            if (count <= 0 || count > UNDO_ROOM) {
                return;
            }
            count--;
            if (codes[count] % CHANGES_OF_PLACE == Slate.SWAP) {
                slate.apply(codes[count]);
            } else {
                slate.setPacked(codes[count] / CHANGES_OF_PLACE, before[count]);
            }
        }
    }

    /** The lawful moves of positions by a slate, and what is behind each. */
    private static final class Moves {
        boolean laidAll = false;
        int listLength = 0;
        private Game game;
        private final int[] list = new int[POSITION_ROOM];
        private final int[] listed = new int[POSITION_ROOM];
        private final int[] counts = new int[POSITION_ROOM];
        private final int[] codes = new int[POSITION_ROOM * MOVE_ROOM];
        private final int[] nexts = new int[POSITION_ROOM * MOVE_ROOM];
        // Of each piece the rules may and not that are not struck, those of higher places first.
        private final int[] speakers = new int[PIECE_ROOM * RULE_ROOM];
        private final int[] speakerShifts = new int[PIECE_ROOM * RULE_ROOM];
        private final boolean[] speakerAllows = new boolean[PIECE_ROOM * RULE_ROOM];
        private final int[] speakerCounts = new int[PIECE_ROOM];
        // Likewise the rules wins and loses.
        private final int[] enders = new int[RULE_ROOM];
        private final int[] enderResults = new int[RULE_ROOM];
        private int enderCount = 0;

        Moves(Game first) {
            game = first;
        }

        void prepare(Game ofGame, Slate slate) {
            game = ofGame;
            laidAll = false;
            listLength = 0;
            Arrays.fill(counts, 0);
            Arrays.fill(speakerCounts, 0);
            enderCount = 0;
            for (int place = slate.size - 1; place >= 0; place--) {
                if (!slate.isStruck(place)) {
                    addRule(slate.ruleAt(place), slate.kindAt(place, game), slate.stepAt(place));
                }
            }
        }

        private void addRule(int number, int kindNow, int step) {
            int piece = game.pieceOf(number);
            if (piece < 0 || piece >= PIECE_ROOM) {
                if (enderCount < RULE_ROOM) {
                    enders[enderCount] = number;
                    enderResults[enderCount] = kindNow == KIND_WINS ? MOVER_WINS : MOVER_LOSES;
                    enderCount++;
                }
            } else if (speakerCounts[piece] < RULE_ROOM) {
                int slot = piece * RULE_ROOM + speakerCounts[piece];
                speakers[slot] = number;
                speakerShifts[slot] = game.wayOf(number) == WAY_DOWN ? -step : step;
                speakerAllows[slot] = kindNow == KIND_MAY;
                speakerCounts[piece]++;
            }
        }

        private boolean isMove(int position, int k) {
            return position >= 0 && position < POSITION_ROOM && k >= 0 && k < counts[position];
        }

        int countOf(int position) {
            return position >= 0 && position < POSITION_ROOM ? counts[position] : 0;
        }

        int codeOf(int position, int k) {
            return isMove(position, k) ? codes[position * MOVE_ROOM + k] : NONE;
        }

        /** The position behind a move, or MOVER_WINS, or MOVER_LOSES. */
        int nextOf(int position, int k) {
            return isMove(position, k) ? nexts[position * MOVE_ROOM + k] : MOVER_LOSES;
        }

        int winnerWhenStuck(int position) {
            return game.winnerWhenStuck(position & 1);
        }

        // ---- lists of positions

        int listedAt(int i) {
            return i >= 0 && i < listLength ? list[i] : 0;
        }

        private void clearList() {
            listLength = 0;
            Arrays.fill(listed, 0);
        }

        private void enlist(int position) {
            if (position >= 0 && position < POSITION_ROOM && listed[position] == 0) {
                listed[position] = 1;
                list[listLength] = position;
                listLength++;
            }
        }

        void listAll() {
            clearList();
            for (int position = 0; position < game.positions; position++) {
                enlist(position);
            }
        }

        /** All to which moves lead from there; the moves must have been laid out. */
        void listFrom(int start) {
            clearList();
            enlist(start);
            for (int i = 0; i < listLength && i < POSITION_ROOM; i++) {
                enlistNextsOf(list[i]);
            }
        }

        private void enlistNextsOf(int position) {
            for (int k = 0; k < counts[position]; k++) {
                enlist(nexts[position * MOVE_ROOM + k]);
            }
        }

        // ---- laying moves out

        /** Of all positions, or of those alone to which moves lead from the beginnings. */
        void layOut(boolean all) {
            if (game.fields == 0) {
                return;
            }
            clearList();
            if (all) {
                listAll();
            } else {
                enlist(game.beginningOf(0));
                enlist(game.beginningOf(1));
            }
            for (int i = 0; i < listLength && i < POSITION_ROOM; i++) {
                int position = list[i];
                counts[position] = 0;
                for (int piece = 0; piece < PIECE_ROOM; piece++) {
                    layPiece(position, piece);
                }
                layNexts(position);
                enlistNextsOf(position);
            }
            laidAll = all;
        }

        private void layPiece(int position, int piece) {
            int spot = game.spotToLeave(position, piece);
            if (spot == NONE) {
                return;
            }
            int decided = 0;
            int goals = 0;
            for (int i = piece * RULE_ROOM; i < piece * RULE_ROOM + speakerCounts[piece]; i++) {
                int goal = speakerShifts[i] == 0 ? game.fields : game.fieldOrNone(spot + speakerShifts[i]);
                boolean open = goal != NONE && (decided >> goal & 1) == 0;
                if (open && game.holds(speakers[i], position, piece, goal)) {
                    decided |= 1 << goal;
                    goals |= speakerAllows[i] ? 1 << goal : 0;
                }
            }
            for (int goal = 0; goal < GOAL_ROOM && goals >> goal != 0; goal++) {
                if ((goals >> goal & 1) != 0 && counts[position] < MOVE_ROOM) {
                    codes[position * MOVE_ROOM + counts[position]] = piece * GOAL_ROOM + goal;
                    counts[position]++;
                }
            }
        }

        private void layNexts(int position) {
            for (int k = 0; k < counts[position]; k++) {
                int code = codes[position * MOVE_ROOM + k];
                int piece = code / GOAL_ROOM;
                int goal = code % GOAL_ROOM;
                int next = game.positionBehind(position, piece, goal);
                for (int i = 0; i < enderCount && next >= 0; i++) {
                    if (game.holds(enders[i], position, piece, goal)) {
                        next = enderResults[i];
                    }
                }
                nexts[position * MOVE_ROOM + k] = next;
            }
        }
    }

    /** What positions are worth, reckoned from the ends back over the positions that the moves have listed. */
    private static final class Values {
        private static final int SURE = 1000000000;

        boolean solved = false;
        final Moves moves;
        private final int[] settledWorths = new int[POSITION_ROOM];
        private final int[] settledSteps = new int[POSITION_ROOM];
        /** How many moves of a position lead on to one of which all is not known yet. */
        private final int[] left = new int[POSITION_ROOM];
        /** The positions from which a move leads to p stand from sourceStarts[p] up to sourceStarts[p + 1]. */
        private final int[] sourceStarts = new int[POSITION_ROOM + 1];
        private final int[] sources = new int[POSITION_ROOM * MOVE_ROOM];
        private final int[] queue = new int[POSITION_ROOM];
        private int queueLength = 0;
        private final int[] rowLengths = new int[POSITION_ROOM];
        private final int[] bestMoves = new int[POSITION_ROOM];
        private long[] chances = new long[POSITION_ROOM];
        private long[] chancesBefore = new long[POSITION_ROOM];

        Values(Moves moves) {
            this.moves = moves;
        }

        int worthOf(int position) {
            return position >= 0 && position < POSITION_ROOM ? settledWorths[position] : 0;
        }

        int stepsOf(int position) {
            return worthOf(position) != 0 ? settledSteps[position] : NONE;
        }

        /** Which of its moves it is; NONE if it has none. */
        int bestMoveOf(int position) {
            int worthHere = worthOf(position);
            for (int k = 0; k < moves.countOf(position); k++) {
                int next = moves.nextOf(position, k);
                int worthOfMove = next >= 0 ? -worthOf(next) : next == MOVER_WINS ? 1 : -1;
                int stepsOfMove = next >= 0 ? stepsOf(next) + 1 : 1;
                // The least steps of winning moves, the greatest of losing ones are those of the position.
                if (worthOfMove == worthHere && (worthHere == 0 || stepsOfMove == stepsOf(position))) {
                    return k;
                }
            }
            return NONE;
        }

        // ---- from the ends back

        void solve() {
            findSources();
            queueLength = 0;
            for (int i = 0; i < moves.listLength; i++) {
                settleIfStuck(moves.listedAt(i));
            }
            // They come behind the stuck ones, so that in the queue no number of steps comes ahead of a lesser one.
            for (int i = 0; i < moves.listLength; i++) {
                settleIfEnding(moves.listedAt(i));
            }
            for (int head = 0; head < queueLength && head < POSITION_ROOM; head++) {
                settleSourcesOf(queue[head]);
            }
            solved = true;
        }

        private void findSources() {
            Arrays.fill(sourceStarts, 0);
            for (int i = 0; i < moves.listLength; i++) {
                int position = moves.listedAt(i);
                for (int k = 0; k < moves.countOf(position); k++) {
                    int next = moves.nextOf(position, k);
                    if (next >= 0 && next < POSITION_ROOM) {
                        sourceStarts[next]++;
                    }
                }
            }
            for (int position = 1; position <= POSITION_ROOM; position++) {
                sourceStarts[position] += sourceStarts[position - 1];
            }
            // Each start stands at the end of its range, and comes down to its beginning as that is filled.
            for (int i = 0; i < moves.listLength; i++) {
                int position = moves.listedAt(i);
                for (int k = 0; k < moves.countOf(position); k++) {
                    int next = moves.nextOf(position, k);
                    if (next >= 0 && next < POSITION_ROOM) {
                        sourceStarts[next]--;
                        sources[sourceStarts[next]] = position;
                    }
                }
            }
        }

        private void settle(int position, int worth, int steps) {
            settledWorths[position] = worth;
            settledSteps[position] = steps;
            enqueue(position);
        }

        private void enqueue(int position) {
            if (queueLength < POSITION_ROOM) {
                queue[queueLength] = position;
                queueLength++;
            }
        }

        private void settleIfStuck(int position) {
            settledWorths[position] = 0;
            if (moves.countOf(position) == 0) {
                int winner = moves.winnerWhenStuck(position);
                if (winner != DRAWN_GAME) {
                    settle(position, winner == (position & 1) ? 1 : -1, 0);
                }
            }
        }

        private void settleIfEnding(int position) {
            left[position] = countLeadingOn(position);
            boolean wins = false;
            for (int k = 0; k < moves.countOf(position); k++) {
                wins |= moves.nextOf(position, k) == MOVER_WINS;
            }
            if (wins) {
                settle(position, 1, 1);
            } else if (left[position] == 0 && moves.countOf(position) > 0) {
                settle(position, -1, 1);
            }
        }

        private int countLeadingOn(int position) {
            int count = 0;
            for (int k = 0; k < moves.countOf(position); k++) {
                count += moves.nextOf(position, k) >= 0 ? 1 : 0;
            }
            return count;
        }

        private void settleSourcesOf(int position) {
            for (int i = sourceStarts[position]; i < sourceStarts[position + 1]; i++) {
                int source = sources[i];
                left[source]--;
                if (settledWorths[source] != 0) {
                    continue;
                }
                if (settledWorths[position] < 0) {
                    settle(source, 1, settledSteps[position] + 1);
                } else if (left[source] == 0) {
                    settle(source, -1, settledSteps[position] + 1);
                }
            }
        }

        // ---- the longest row, over the list of what can be reached from its start

        int longestFrom(int start) {
            findSources();
            queueLength = 0;
            for (int i = 0; i < moves.listLength; i++) {
                int position = moves.listedAt(i);
                rowLengths[position] = moves.countOf(position) > 0 ? 1 : 0;
                left[position] = countLeadingOn(position);
                if (left[position] == 0) {
                    enqueue(position);
                }
            }
            for (int head = 0; head < queueLength && head < POSITION_ROOM; head++) {
                lengthenSourcesOf(queue[head]);
            }
            // A position on a round, or ahead of one, never comes into the queue.
            boolean ends = queueLength == moves.listLength && start >= 0 && start < POSITION_ROOM;
            return ends ? rowLengths[start] : NONE;
        }

        private void lengthenSourcesOf(int position) {
            for (int i = sourceStarts[position]; i < sourceStarts[position + 1]; i++) {
                int source = sources[i];
                rowLengths[source] = Math.max(rowLengths[source], rowLengths[position] + 1);
                left[source]--;
                if (left[source] == 0) {
                    enqueue(source);
                }
            }
        }

        // ---- chances, over the list of what can be reached from the start

        int chanceFrom(int start, int within, int[] errs) {
            for (int i = 0; i < moves.listLength; i++) {
                int position = moves.listedAt(i);
                bestMoves[position] = bestMoveOf(position);
                chances[position] = moves.countOf(position) == 0 ? chanceOfWinner(moves.winnerWhenStuck(position)) : 0;
            }
            for (int n = 0; n < within; n++) {
                long[] older = chancesBefore;
                chancesBefore = chances;
                chances = older;
                for (int i = 0; i < moves.listLength; i++) {
                    int position = moves.listedAt(i);
                    chances[position] = chanceOneMoveOn(position, errs);
                }
            }
            return start >= 0 && start < POSITION_ROOM ? (int) chances[start] : 0;
        }

        private static long chanceOfWinner(int winner) {
            return winner == 0 ? SURE : 0;
        }

        private long chanceOneMoveOn(int position, int[] errs) {
            int count = moves.countOf(position);
            if (count == 0) {
                return chancesBefore[position];
            }
            int who = position & 1;
            long all = 0;
            long best = 0;
            for (int k = 0; k < count; k++) {
                int next = moves.nextOf(position, k);
                long chance = next >= 0 ? chancesBefore[next] : chanceOfWinner(next == MOVER_WINS ? who : 1 - who);
                all += chance;
                best = k == bestMoves[position] ? chance : best;
            }
            int part = who < errs.length ? errs[who] : 0;
            return ((100 - part) * best + part * (all / count)) / 100;
        }
    }

    /** What the game is worth by a slate, and by what each change makes of it, reckoned when it is asked first. */
    private static final class Worths {
        private static final int UNKNOWN = 9;
        /** The slate as it is stands behind all codes. */
        private static final int UNCHANGED = RULE_ROOM * CHANGES_OF_PLACE;
        private static final int KIND_FAIR = 2;

        private final Values values;
        private Game game;
        private boolean knowsGame = false;
        private final Slate base = new Slate();
        private final Slate changed = new Slate();
        private final int[] known = new int[2 * (UNCHANGED + 1)];

        Worths(Game first, Values values) {
            game = first;
            this.values = values;
        }

        /** The game's text is another one: what was known of like slates was of the old one. */
        void forget() {
            knowsGame = false;
        }

        void referTo(Game ofGame, Slate slate) {
            if (!knowsGame || !base.isLike(slate)) {
                knowsGame = true;
                game = ofGame;
                base.copyFrom(slate);
                Arrays.fill(known, UNKNOWN);
            }
        }

        private static int slotOf(int code, int starter) {
            return 2 * (code >= 0 && code < UNCHANGED ? code : UNCHANGED) + (starter & 1);
        }

        private void reckon(int code) {
            if (known[slotOf(code, 0)] != UNKNOWN) {
                return;
            }
            changed.copyFrom(base);
            if (code != NONE) {
                changed.apply(code);
            }
            values.moves.prepare(game, changed);
            values.moves.layOut(false);
            values.solve();
            known[slotOf(code, 0)] = values.worthOf(game.beginningOf(0));
            known[slotOf(code, 1)] = values.worthOf(game.beginningOf(1));
        }

        /** For who begins; code NONE is for no change. */
        int worthBy(int code, int starter) {
            reckon(code);
            return known[slotOf(code, starter)];
        }

        /** NONE if it is drawn. */
        int loserOf(int starter) {
            reckon(NONE);
            int worthNow = known[slotOf(NONE, starter)];
            if (worthNow == 0) {
                return NONE;
            }
            return worthNow < 0 ? starter : 1 - starter;
        }

        /** The change that a player makes of its kind, if then the other one, or it, begins as starter. */
        int choiceOf(int player, int[] kinds, int starter) {
            int kindOfPlayer = player >= 0 && player < kinds.length ? kinds[player] : 0;
            if (kindOfPlayer == 0) {
                return NONE;
            }
            reckon(NONE);
            int best = likingOf(known[slotOf(NONE, starter)], kindOfPlayer, player == starter);
            int choice = NONE;
            // There is nothing better than 1, so the first one of that is the last to be looked at.
            for (int code = 0; code < base.codeCount() && best < 1; code++) {
                if (base.allows(game, code)) {
                    reckon(code);
                    int liking = likingOf(known[slotOf(code, starter)], kindOfPlayer, player == starter);
                    choice = liking > best ? code : choice;
                    best = Math.max(best, liking);
                }
            }
            return choice;
        }

        private static int likingOf(int worth, int kindOfPlayer, boolean begins) {
            if (kindOfPlayer == KIND_FAIR) {
                return worth == 0 ? 1 : 0;
            }
            return begins ? worth : -worth;
        }
    }

    /** A game that is played move by move. */
    private static final class Match {
        int position = 0;
        int moveCount = 0;
        /** Who has won by a move; NONE also when it is over because one is stuck. */
        private int wonByMove = NONE;

        void begin(int beginning) {
            position = beginning;
            moveCount = 0;
            wonByMove = NONE;
        }

        int winner(Moves moves) {
            if (wonByMove != NONE) {
                return wonByMove;
            }
            return moves.countOf(position) == 0 ? moves.winnerWhenStuck(position) : NONE;
        }

        boolean step(Moves moves, Game game, int code) {
            int count = wonByMove == NONE ? moves.countOf(position) : 0;
            for (int k = 0; k < count; k++) {
                if (moves.codeOf(position, k) == code) {
                    int who = position & 1;
                    int next = moves.nextOf(position, k);
                    if (next < 0) {
                        wonByMove = next == MOVER_WINS ? who : 1 - who;
                    }
                    position = game.positionBehind(position, code / GOAL_ROOM, code % GOAL_ROOM);
                    moveCount++;
                    return true;
                }
            }
            return false;
        }
    }

    /** The slate that was kept, and where what it makes parts from what another one makes. */
    private static final class Spring {
        boolean kept = false;
        final Slate slate = new Slate();
        int partingMoves = NONE;
        int partingPosition = NONE;
        private final int[] distances = new int[POSITION_ROOM];

        void compare(Moves now, Moves then, int start) {
            partingMoves = NONE;
            partingPosition = NONE;
            Arrays.fill(distances, NONE);
            if (start >= 0 && start < POSITION_ROOM) {
                distances[start] = 0;
            }
            boolean more = true;
            for (int far = 0; far < POSITION_ROOM && more && partingPosition == NONE; far++) {
                more = compareAt(far, now, then);
            }
        }

        /** Whether it goes on to positions that are farther. */
        private boolean compareAt(int far, Moves now, Moves then) {
            boolean more = false;
            for (int position = 0; position < POSITION_ROOM; position++) {
                if (distances[position] != far) {
                    continue;
                }
                if (!isLike(position, now, then)) {
                    partingMoves = far;
                    partingPosition = position;
                    return false;
                }
                for (int k = 0; k < now.countOf(position); k++) {
                    int next = now.nextOf(position, k);
                    if (next >= 0 && next < POSITION_ROOM && distances[next] == NONE) {
                        distances[next] = far + 1;
                        more = true;
                    }
                }
            }
            return more;
        }

        private static boolean isLike(int position, Moves now, Moves then) {
            boolean like = now.countOf(position) == then.countOf(position);
            for (int k = 0; k < now.countOf(position) && like; k++) {
                like = now.codeOf(position, k) == then.codeOf(position, k)
                    && now.nextOf(position, k) == then.nextOf(position, k);
            }
            return like;
        }
    }
}
