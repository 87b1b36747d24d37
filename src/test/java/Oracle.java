import java.util.ArrayList;
import java.util.Arrays;
import java.util.HashMap;
import java.util.HashSet;
import java.util.List;
import java.util.Map;
import java.util.Set;
import java.util.TreeMap;
import java.util.TreeSet;

/** The document once more, as plainly as can be and with no thought of room or time, to compare answers with. */
final class Oracle {
    static final int NONE = -1;

    interface Num { long of(Scene s); }

    interface Truth { boolean of(Scene s); }

    record Scene(int spot, int goal, int who, int[] at) { }

    record Piece(String name, int start, int owner) { }

    record Rule(int number, int kind, boolean ever, int piece, int way, int n, Truth test) { }

    record Told(int fields, List<Piece> pieces, List<Rule> rules, int stuck, int statements) { }

    record Line(int rule, boolean struck, boolean turned, int n) { }

    record Way(int piece, int goal) { }

    /** Worth 1, 0, -1 for who is to move, in so many moves (NONE of drawn ones). */
    record Val(int worth, int in) { }

    static final class Fault extends RuntimeException {
        final int kind;
        final int place;

        Fault(int kind, int place) {
            this.kind = kind;
            this.place = place;
        }
    }

    static final Set<String> OWN = new HashSet<>(Arrays.asList("board", "piece", "at", "of", "ever", "stuck", "loses",
        "draws", "wins", "may", "not", "up", "down", "off", "when", "or", "and", "all", "spot", "goal", "who", "min",
        "max"));

    // ---- reading

    static final class Text {
        final String s;
        int at = 0;
        int open = 0;
        int fields = 0;
        final List<Piece> pieces = new ArrayList<>();
        final List<Rule> rules = new ArrayList<>();
        int stuck = 0;

        Text(String s) {
            this.s = s;
        }

        static boolean letter(char c) {
            return c >= 'a' && c <= 'z';
        }

        static boolean digit(char c) {
            return c >= '0' && c <= '9';
        }

        /** Where the next token begins; a fault if it is none, or has no blank ahead where it needs one. */
        int look() {
            int i = at;
            while (i < s.length() && (s.charAt(i) == ' ' || s.charAt(i) == '\n')) {
                i++;
            }
            if (i < s.length()) {
                char c = s.charAt(i);
                boolean alnum = letter(c) || digit(c);
                if (alnum && i == at && i > 0 && (letter(s.charAt(i - 1)) || digit(s.charAt(i - 1)))) {
                    throw new Fault(1, i);
                }
                int j = i;
                while (j < s.length() && letter(c) && letter(s.charAt(j))) {
                    j++;
                }
                if (j - i > 6) {
                    throw new Fault(1, i + 6);
                }
                j = i;
                while (j < s.length() && digit(c) && digit(s.charAt(j))) {
                    j++;
                }
                if (j - i > 4) {
                    throw new Fault(1, i + 4);
                }
            }
            return i;
        }

        /** The next token, or "" at the end. */
        String peek() {
            int i = look();
            if (i == s.length()) {
                return "";
            }
            int j = i + 1;
            while (j < s.length() && letter(s.charAt(i)) && letter(s.charAt(j))) {
                j++;
            }
            while (j < s.length() && digit(s.charAt(i)) && digit(s.charAt(j))) {
                j++;
            }
            return s.substring(i, j);
        }

        String next() {
            String t = peek();
            at = look() + t.length();
            return t;
        }

        void want(String t) {
            if (!peek().equals(t)) {
                throw new Fault(1, look());
            }
            next();
        }

        boolean isWord(String t) {
            return !t.isEmpty() && letter(t.charAt(0));
        }

        int number(int least, int most) {
            String t = peek();
            if (t.isEmpty() || !digit(t.charAt(0))) {
                throw new Fault(1, look());
            }
            int n = Integer.parseInt(t);
            if (n < least || n > most) {
                throw new Fault(4, look());
            }
            next();
            return n;
        }

        int pieceIndex(String name) {
            for (int i = 0; i < pieces.size(); i++) {
                if (pieces.get(i).name().equals(name)) {
                    return i;
                }
            }
            return NONE;
        }

        Told read() {
            int statements = 0;
            do {
                String t = peek();
                if (statements == 0) {
                    want("board");
                    fields = number(2, 9);
                } else if (t.equals("piece")) {
                    piece();
                } else if (t.equals("stuck")) {
                    next();
                    int which = Arrays.asList("loses", "draws", "wins").indexOf(peek());
                    if (which < 0) {
                        throw new Fault(1, look());
                    }
                    stuck = which;
                    next();
                } else if (Arrays.asList("ever", "may", "not", "wins", "loses").contains(t)) {
                    rule();
                } else {
                    throw new Fault(1, look());
                }
                want(";");
                statements++;
            } while (!peek().isEmpty());
            return new Told(fields, pieces, rules, stuck, statements);
        }

        void piece() {
            if (pieces.size() == 2) {
                throw new Fault(5, look());
            }
            next();
            String name = peek();
            if (!isWord(name) || OWN.contains(name)) {
                throw new Fault(1, look());
            }
            if (pieceIndex(name) >= 0) {
                throw new Fault(2, look());
            }
            next();
            want("at");
            int start = number(0, fields - 1);
            want("of");
            pieces.add(new Piece(name, start, number(0, 2)));
        }

        void rule() {
            if (rules.size() == 12) {
                throw new Fault(5, look());
            }
            boolean ever = peek().equals("ever");
            if (ever) {
                next();
            }
            int kind = Arrays.asList("may", "not", "wins", "loses").indexOf(peek());
            if (kind < 0) {
                throw new Fault(1, look());
            }
            next();
            int piece = NONE;
            int way = NONE;
            int n = 0;
            if (kind < 2) {
                piece = name();
                way = Arrays.asList("up", "down", "off").indexOf(peek());
                if (way < 0) {
                    throw new Fault(1, look());
                }
                next();
                n = way == 2 ? 0 : number(1, 3);
            }
            want("when");
            rules.add(new Rule(rules.size(), kind, ever, piece, way, n, test()));
        }

        int name() {
            String t = peek();
            if (!isWord(t) || OWN.contains(t)) {
                throw new Fault(1, look());
            }
            int piece = pieceIndex(t);
            if (piece < 0) {
                throw new Fault(3, look());
            }
            next();
            return piece;
        }

        Truth test() {
            Truth left = both();
            while (peek().equals("or")) {
                next();
                Truth a = left;
                Truth b = both();
                left = s -> a.of(s) || b.of(s);
            }
            return left;
        }

        Truth both() {
            Truth left = fact();
            while (peek().equals("and")) {
                next();
                Truth a = left;
                Truth b = fact();
                left = s -> a.of(s) && b.of(s);
            }
            return left;
        }

        void open(String sign) {
            if (peek().equals(sign) && open == 8) {
                throw new Fault(5, look());
            }
            want(sign);
            open++;
        }

        void close(String sign) {
            want(sign);
            open--;
        }

        Truth fact() {
            String t = peek();
            if (t.equals("not")) {
                next();
                Truth a = fact();
                return s -> !a.of(s);
            }
            if (t.equals("[")) {
                open("[");
                Truth a = test();
                close("]");
                return a;
            }
            if (t.equals("all")) {
                next();
                return s -> true;
            }
            Num a = sum();
            String sign = peek();
            if (!Arrays.asList("<", ">", "=").contains(sign)) {
                throw new Fault(1, look());
            }
            next();
            Num b = sum();
            return s -> sign.equals("<") ? a.of(s) < b.of(s) : sign.equals(">") ? a.of(s) > b.of(s) : a.of(s) == b.of(s);
        }

        static long limit(long n) {
            return Math.max(-1000000L, Math.min(1000000L, n));
        }

        Num sum() {
            Num left = product();
            while (peek().equals("+") || peek().equals("-")) {
                int sign = next().equals("+") ? 1 : -1;
                Num a = left;
                Num b = product();
                left = s -> limit(a.of(s) + sign * b.of(s));
            }
            return left;
        }

        static long floor(long a, long b) {
            long q = (long) Math.floor((double) a / (double) b);
            while (b > 0 ? q * b > a : q * b < a) {
                q--;
            }
            return q;
        }

        Num product() {
            Num left = part();
            while (Arrays.asList("*", "/", "%").contains(peek())) {
                String sign = next();
                Num a = left;
                Num b = part();
                if (sign.equals("*")) {
                    left = s -> limit(a.of(s) * b.of(s));
                } else if (sign.equals("/")) {
                    left = s -> b.of(s) == 0 ? 0 : floor(a.of(s), b.of(s));
                } else {
                    left = s -> b.of(s) == 0 ? 0 : a.of(s) - floor(a.of(s), b.of(s)) * b.of(s);
                }
            }
            return left;
        }

        Num part() {
            String t = peek();
            if (t.equals("(")) {
                open("(");
                Num a = sum();
                close(")");
                return a;
            }
            if (!t.isEmpty() && digit(t.charAt(0))) {
                next();
                return s -> Integer.parseInt(t);
            }
            if (t.equals("min") || t.equals("max")) {
                next();
                open("(");
                Num a = sum();
                want(",");
                Num b = sum();
                close(")");
                return s -> t.equals("min") ? Math.min(a.of(s), b.of(s)) : Math.max(a.of(s), b.of(s));
            }
            if (t.equals("spot") || t.equals("goal") || t.equals("who")) {
                next();
                return s -> t.equals("spot") ? s.spot() : t.equals("goal") ? s.goal() : s.who();
            }
            int piece = name();
            return s -> s.at()[piece];
        }
    }

    // ---- state

    private final List<Integer> tape = new ArrayList<>();
    private Told told = null;
    private int faultKind = 0;
    private int faultPlace = NONE;
    private List<Line> slate = new ArrayList<>();
    private final List<List<Line>> olds = new ArrayList<>();
    private List<Line> spring = null;
    private int sunday = 0;
    private final int[] errs = new int[2];
    private final int[] kinds = new int[2];
    private int position = 0;
    private int moved = 0;
    private int wonBy = NONE;
    private List<Integer> image = new ArrayList<>();
    private final int[] refusals = new int[6];

    int feed(int a, int b, int c, int d, int e) {
        if (tape.size() > 1780) {
            refusals[0]++;
            return NONE;
        }
        for (int x : new int[] {a, b, c, d, e}) {
            tape.add(x >> 24 & 255);
            tape.add(x >> 16 & 255);
            tape.add(x >> 8 & 255);
            tape.add(x & 255);
        }
        return tape.size();
    }

    boolean end(int n) {
        if (n < 0 || n > tape.size()) {
            refusals[0]++;
            return false;
        }
        while (tape.size() > n) {
            tape.remove(tape.size() - 1);
        }
        return true;
    }

    int game() {
        StringBuilder text = new StringBuilder();
        for (int b : tape) {
            text.append((char) b);
        }
        tape.clear();
        try {
            Told t = new Text(text.toString()).read();
            faultKind = 0;
            faultPlace = NONE;
            told = t;
        } catch (Fault f) {
            faultKind = f.kind;
            faultPlace = f.place;
            refusals[1]++;
            return NONE;
        }
        slate = new ArrayList<>();
        for (Rule r : told.rules()) {
            slate.add(new Line(r.number(), false, false, r.n()));
        }
        olds.clear();
        spring = null;
        sunday = 0;
        Arrays.fill(errs, 0);
        Arrays.fill(kinds, 0);
        begin();
        return told.statements();
    }

    private void begin() {
        moved = 0;
        wonBy = NONE;
        position = told == null ? 0 : beginning(sunday % 2);
    }

    int fault(int what) {
        return what == 0 ? faultKind : what == 1 ? faultPlace : NONE;
    }

    int has(int what) {
        switch (what) {
            case 0: return told == null ? 0 : told.fields();
            case 1: return told == null ? 0 : told.pieces().size();
            case 2: return slate.size();
            case 3: return (int) slate.stream().filter(Line::struck).count();
            case 4: return positions();
            case 5: return sunday;
            case 6: return olds.size();
            case 7: return told == null ? 0 : told.stuck();
            default: return NONE;
        }
    }

    int letter(int piece, int k) {
        if (told == null || piece < 0 || piece >= told.pieces().size()) {
            return NONE;
        }
        String name = told.pieces().get(piece).name();
        return k < 0 || k >= name.length() ? NONE : name.charAt(k);
    }

    int rule(int place, int what) {
        if (place < 0 || place >= slate.size()) {
            return NONE;
        }
        Line line = slate.get(place);
        Rule r = told.rules().get(line.rule());
        switch (what) {
            case 0: return r.number();
            case 1: return kindNow(line);
            case 2: return r.piece();
            case 3: return r.way();
            case 4: return line.n();
            case 5: return line.struck() ? 1 : 0;
            case 6: return r.ever() ? 1 : 0;
            default: return NONE;
        }
    }

    // ---- the game by a slate

    private int positions() {
        return told == null ? 0 : 2 * (int) Math.pow(told.fields() + 1, told.pieces().size());
    }

    private int[] places(int p) {
        int[] at = new int[told.pieces().size()];
        int rest = p / 2;
        for (int i = at.length - 1; i >= 0; i--) {
            at[i] = rest % (told.fields() + 1);
            rest /= told.fields() + 1;
        }
        return at;
    }

    private int numberOf(int[] at, int who) {
        int n = 0;
        for (int x : at) {
            n = n * (told.fields() + 1) + x;
        }
        return n * 2 + who;
    }

    private int beginning(int who) {
        return numberOf(told.pieces().stream().mapToInt(Piece::start).toArray(), who);
    }

    private int kindNow(Line line) {
        int kind = told.rules().get(line.rule()).kind();
        return line.turned() ? new int[] {1, 0, 3, 2}[kind] : kind;
    }

    private List<Way> movesOf(List<Line> by, int p) {
        List<Way> found = new ArrayList<>();
        int[] at = places(p);
        int who = p % 2;
        for (int piece = 0; piece < at.length; piece++) {
            int owner = told.pieces().get(piece).owner();
            if (at[piece] == told.fields() || (owner != 2 && owner != who)) {
                continue;
            }
            for (int goal = 0; goal <= told.fields(); goal++) {
                int verdict = NONE;
                for (Line line : by) {
                    Rule r = told.rules().get(line.rule());
                    if (line.struck() || r.piece() != piece) {
                        continue;
                    }
                    int to = r.way() == 0 ? at[piece] + line.n() : r.way() == 1 ? at[piece] - line.n() : told.fields();
                    boolean speaks = to == goal && (r.way() == 2 || to < told.fields());
                    if (speaks && r.test().of(new Scene(at[piece], goal, who, at))) {
                        verdict = kindNow(line);
                    }
                }
                if (verdict == 0) {
                    found.add(new Way(piece, goal));
                }
            }
        }
        return found;
    }

    private int behind(int p, Way m) {
        int[] at = places(p);
        at[m.piece()] = m.goal();
        return numberOf(at, 1 - p % 2);
    }

    /** 1 if who moved has won by it, -1 if it has lost, 0 if it goes on. */
    private int endBy(List<Line> by, int p, Way m) {
        int spot = places(p)[m.piece()];
        int[] at = places(behind(p, m));
        int end = 0;
        for (Line line : by) {
            boolean ends = told.rules().get(line.rule()).kind() >= 2;
            if (ends && !line.struck() && told.rules().get(line.rule()).test().of(new Scene(spot, m.goal(), p % 2, at))) {
                end = kindNow(line) == 2 ? 1 : -1;
            }
        }
        return end;
    }

    private final Map<List<Line>, Map<Integer, Val>> solved = new HashMap<>();
    private Told solvedOf = null;

    private Map<Integer, Val> valuesOf(List<Line> by) {
        if (solvedOf != told) {
            solved.clear();
            solvedOf = told;
        }
        return solved.computeIfAbsent(new ArrayList<>(by), this::solve);
    }

    private Map<Integer, Val> solve(List<Line> by) {
        Map<Integer, Val> known = new HashMap<>();
        Map<Integer, List<int[]>> all = new HashMap<>();
        for (int p = 0; p < positions(); p++) {
            List<int[]> ways = new ArrayList<>();
            for (Way m : movesOf(by, p)) {
                ways.add(new int[] {endBy(by, p, m), behind(p, m)});
            }
            all.put(p, ways);
        }
        for (int n = 0; n <= positions() + 1; n++) {
            Map<Integer, Val> fresh = new HashMap<>();
            for (int p = 0; p < positions(); p++) {
                if (!known.containsKey(p)) {
                    int w = worthIn(n, all.get(p), known);
                    if (w != 0) {
                        fresh.put(p, new Val(w, n));
                    }
                }
            }
            known.putAll(fresh);
        }
        for (int p = 0; p < positions(); p++) {
            known.putIfAbsent(p, new Val(0, NONE));
        }
        return known;
    }

    /** Of one that has neither been won nor lost in fewer: 1 won, -1 lost in n just. */
    private int worthIn(int n, List<int[]> ways, Map<Integer, Val> known) {
        if (ways.isEmpty()) {
            return n == 0 ? new int[] {-1, 0, 1}[told.stuck()] : 0;
        }
        boolean lost = n > 0;
        for (int[] way : ways) {
            Val v = known.get(way[1]);
            if (n > 0 && (way[0] == 1 || (way[0] == 0 && v != null && v.worth() == -1))) {
                return 1;
            }
            lost &= way[0] == -1 || (way[0] == 0 && v != null && v.worth() == 1);
        }
        return lost ? -1 : 0;
    }

    private Way bestOf(List<Line> by, int p) {
        Val v = valuesOf(by).get(p);
        Way best = null;
        int bestIn = 0;
        for (Way m : movesOf(by, p)) {
            int end = endBy(by, p, m);
            Val next = valuesOf(by).get(behind(p, m));
            int worth = end != 0 ? end : -next.worth();
            int in = end != 0 ? 1 : next.in() + 1;
            if (worth != v.worth()) {
                continue;
            }
            if (best == null || (worth == 1 && in < bestIn) || (worth == -1 && in > bestIn)) {
                best = m;
                bestIn = in;
            }
        }
        return best;
    }

    private boolean isPosition(int p) {
        return p >= 0 && p < positions();
    }

    private static int codeOf(Way m) {
        return m == null ? NONE : m.piece() * 10 + m.goal();
    }

    // ---- moves

    int lawful(int p, int k) {
        if (!isPosition(p)) {
            return NONE;
        }
        List<Way> found = movesOf(slate, p);
        return k == NONE ? found.size() : k < 0 || k >= found.size() ? NONE : codeOf(found.get(k));
    }

    private int stuckWinner(int p) {
        return new int[] {1 - p % 2, 2, p % 2}[told.stuck()];
    }

    int played(int what) {
        if (told == null) {
            return NONE;
        }
        switch (what) {
            case 0: return position;
            case 1: return position % 2;
            case 2: return moved;
            case 3: return wonBy != NONE ? wonBy : movesOf(slate, position).isEmpty() ? stuckWinner(position) : NONE;
            default: return NONE;
        }
    }

    boolean move(int piece, int goal) {
        if (told == null || played(3) != NONE || !movesOf(slate, position).contains(new Way(piece, goal))) {
            refusals[2]++;
            return false;
        }
        Way m = new Way(piece, goal);
        int end = endBy(slate, position, m);
        wonBy = end == 0 ? NONE : end == 1 ? position % 2 : 1 - position % 2;
        position = behind(position, m);
        moved++;
        return true;
    }

    int anew() {
        int before = moved;
        begin();
        return before;
    }

    int value(int p, int what) {
        if (!isPosition(p) || what < 0 || what > 2) {
            return -2;
        }
        Val v = valuesOf(slate).get(p);
        return what == 0 ? v.worth() : what == 1 ? v.in() : codeOf(bestOf(slate, p));
    }

    private int worthOf(List<Line> by, int s) {
        return valuesOf(by).get(beginning(s % 2)).worth();
    }

    int worth() {
        return told == null ? -2 : worthOf(slate, sunday);
    }

    int hat() {
        if (told == null) {
            return NONE;
        }
        if (played(3) != NONE) {
            return played(3) == 2 ? NONE : played(3);
        }
        int w = valuesOf(slate).get(position).worth();
        return w == 0 ? NONE : w == 1 ? position % 2 : 1 - position % 2;
    }

    int longest() {
        if (told == null) {
            return NONE;
        }
        try {
            return longestFrom(beginning(sunday % 2), new HashSet<>(), new HashMap<>());
        } catch (Fault round) {
            return NONE;
        }
    }

    private int longestFrom(int p, Set<Integer> path, Map<Integer, Integer> known) {
        if (known.containsKey(p)) {
            return known.get(p);
        }
        if (!path.add(p)) {
            throw new Fault(0, 0);
        }
        int most = 0;
        for (Way m : movesOf(slate, p)) {
            most = Math.max(most, 1 + (endBy(slate, p, m) != 0 ? 0 : longestFrom(behind(p, m), path, known)));
        }
        path.remove(p);
        known.put(p, most);
        return most;
    }

    int row() {
        int keptPosition = position;
        int keptMoved = moved;
        int keptWon = wonBy;
        int keptRefusals = refusals[2];
        begin();
        int wrong = NONE;
        for (int i = 0; i < tape.size() && wrong == NONE; i++) {
            wrong = move(tape.get(i) / 10, tape.get(i) % 10) ? NONE : i;
        }
        tape.clear();
        position = keptPosition;
        moved = keptMoved;
        wonBy = keptWon;
        refusals[2] = keptRefusals;
        return wrong;
    }

    // ---- who errs

    int errs(int player, int part) {
        if (player < 0 || player > 1 || part < 0 || part > 100) {
            refusals[4]++;
            return NONE;
        }
        int before = errs[player];
        errs[player] = part;
        return before;
    }

    int likely(int n) {
        if (told == null || n < 0 || n > 40) {
            return NONE;
        }
        return (int) likely(beginning(sunday % 2), n, new HashMap<>());
    }

    private long likely(int p, int n, Map<Integer, Long> known) {
        int key = p * 100 + n;
        if (known.containsKey(key)) {
            return known.get(key);
        }
        long result = 0;
        List<Way> ways = movesOf(slate, p);
        if (ways.isEmpty()) {
            result = stuckWinner(p) == 0 ? 1000000000L : 0;
        } else if (n > 0) {
            long sum = 0;
            long best = 0;
            for (Way m : ways) {
                int end = endBy(slate, p, m);
                int winner = end == 1 ? p % 2 : 1 - p % 2;
                long c = end != 0 ? (winner == 0 ? 1000000000L : 0) : likely(behind(p, m), n - 1, known);
                sum += c;
                best = m.equals(bestOf(slate, p)) ? c : best;
            }
            int e = errs[p % 2];
            result = ((100 - e) * best + e * (sum / ways.size())) / 100;
        }
        known.put(key, result);
        return result;
    }

    // ---- changes

    private List<Line> changed(List<Line> by, int code) {
        if (told == null || code < 0 || code >= 6 * by.size()) {
            return null;
        }
        int place = code / 6;
        Line line = by.get(place);
        Rule r = told.rules().get(line.rule());
        List<Line> after = new ArrayList<>(by);
        if (r.ever()) {
            return null;
        }
        switch (code % 6) {
            case 0:
                after.set(place, new Line(line.rule(), !line.struck(), line.turned(), line.n()));
                return after;
            case 1:
                after.set(place, new Line(line.rule(), line.struck(), !line.turned(), line.n()));
                return after;
            case 5:
                if (place + 1 == by.size() || told.rules().get(by.get(place + 1).rule()).ever()) {
                    return null;
                }
                after.set(place, by.get(place + 1));
                after.set(place + 1, line);
                return after;
            default:
                int n = code % 6 - 1;
                if (r.kind() >= 2 || r.way() == 2 || line.n() == n) {
                    return null;
                }
                after.set(place, new Line(line.rule(), line.struck(), line.turned(), n));
                return after;
        }
    }

    private List<Integer> codes(List<Line> by) {
        List<Integer> found = new ArrayList<>();
        for (int code = 0; code < 6 * by.size(); code++) {
            if (changed(by, code) != null) {
                found.add(code);
            }
        }
        return found;
    }

    int change(int k) {
        List<Integer> found = codes(slate);
        return k == NONE ? found.size() : k < 0 || k >= found.size() ? NONE : found.get(k);
    }

    int outcome(int code) {
        List<Line> after = changed(slate, code);
        return after == null ? -2 : worthOf(after, sunday);
    }

    int turning(int what) {
        if (told == null || what < 0 || what > 2) {
            return NONE;
        }
        int w = worth();
        int turned = 0;
        int same = 0;
        int one = NONE;
        int two = NONE;
        for (int code : codes(slate)) {
            int after = outcome(code);
            same += after == w ? 1 : 0;
            if (w != 0 && after == -w) {
                turned++;
                if (code % 6 == 5) {
                    two = two == NONE ? code : two;
                } else {
                    one = one == NONE ? code : one;
                }
            }
        }
        return what == 0 ? turned : what == 1 ? same : one != NONE ? one : two;
    }

    private void alter(List<Line> after) {
        olds.add(slate);
        if (olds.size() > 40) {
            olds.remove(0);
        }
        slate = after;
    }

    boolean make(int code) {
        List<Line> after = changed(slate, code);
        if (after == null) {
            refusals[3]++;
            return false;
        }
        alter(after);
        begin();
        return true;
    }

    boolean undo() {
        if (olds.isEmpty()) {
            refusals[3]++;
            return false;
        }
        slate = olds.remove(olds.size() - 1);
        begin();
        return true;
    }

    // ---- Sundays

    int kind(int player, int kind) {
        if (player < 0 || player > 1 || kind < 0 || kind > 2) {
            refusals[4]++;
            return NONE;
        }
        int before = kinds[player];
        kinds[player] = kind;
        return before;
    }

    /** The worth of the Sunday behind s, for a player. */
    private int nextFor(List<Line> by, int s, int player) {
        int w = worthOf(by, s + 1);
        return (s + 1) % 2 == player ? w : -w;
    }

    private int wish(List<Line> by, int s, int player) {
        int best = NONE;
        if (kinds[player] == 1) {
            for (int code : codes(by)) {
                int now = nextFor(best == NONE ? by : changed(by, best), s, player);
                if (nextFor(changed(by, code), s, player) > now) {
                    best = code;
                }
            }
        } else if (kinds[player] == 2 && worthOf(by, s + 1) != 0) {
            for (int code : codes(by)) {
                if (best == NONE && worthOf(changed(by, code), s + 1) == 0) {
                    best = code;
                }
            }
        }
        return best;
    }

    private int lossChange(List<Line> by, int s) {
        int w = worthOf(by, s);
        return w == 0 ? NONE : wish(by, s, w == -1 ? s % 2 : 1 - s % 2);
    }

    int sunday() {
        if (told == null) {
            return -2;
        }
        int code = lossChange(slate, sunday);
        if (code != NONE) {
            alter(changed(slate, code));
        }
        sunday++;
        begin();
        return code;
    }

    int would(int player) {
        return told == null || player < 0 || player > 1 ? -2 : wish(slate, sunday, player);
    }

    int pays(int n) {
        if (told == null || n < 0 || n > 100) {
            return NONE;
        }
        int me = sunday % 2;
        int other = would(1 - me);
        int mine = would(me);
        int a = nextFor(other == NONE ? slate : changed(slate, other), sunday, me);
        int b = nextFor(mine == NONE ? slate : changed(slate, mine), sunday, me);
        return n + a < b - n ? 1 : 0;
    }

    int ring(int n, int what) {
        if (told == null || n < 1 || n > 12 || what < 0 || what > 1) {
            return NONE;
        }
        List<String> seen = new ArrayList<>();
        List<Line> by = slate;
        for (int k = 0; k <= n; k++) {
            String now = by + "/" + (sunday + k) % 2;
            if (seen.contains(now)) {
                return what == 0 ? k - seen.indexOf(now) : seen.indexOf(now);
            }
            seen.add(now);
            int code = lossChange(by, sunday + k);
            by = code == NONE ? by : changed(by, code);
        }
        return NONE;
    }

    // ---- the spring

    int spring() {
        spring = slate;
        return slate.size();
    }

    int parts(int what) {
        if (told == null || spring == null || what < 0 || what > 1) {
            return NONE;
        }
        Map<Integer, TreeSet<Integer>> levels = new TreeMap<>();
        Set<Integer> met = new HashSet<>();
        levels.put(0, new TreeSet<>(List.of(beginning(sunday % 2))));
        met.add(beginning(sunday % 2));
        for (int d = 0; levels.containsKey(d); d++) {
            for (int p : levels.get(d)) {
                if (!describe(slate, p).equals(describe(spring, p))) {
                    return what == 0 ? d : p;
                }
            }
            for (int p : levels.get(d)) {
                for (Way m : movesOf(slate, p)) {
                    if (endBy(slate, p, m) == 0 && met.add(behind(p, m))) {
                        levels.computeIfAbsent(d + 1, x -> new TreeSet<>()).add(behind(p, m));
                    }
                }
            }
        }
        return NONE;
    }

    private String describe(List<Line> by, int p) {
        StringBuilder text = new StringBuilder();
        for (Way m : movesOf(by, p)) {
            text.append(m).append(endBy(by, p, m));
        }
        return text.toString();
    }

    // ---- images

    int image() {
        image = new ArrayList<>();
        image.add(slate.size());
        for (Line line : slate) {
            image.add(line.rule());
            image.add((line.struck() ? 1 : 0) + (line.turned() ? 2 : 0));
            image.add(line.n());
        }
        image.addAll(List.of(sunday / 256 % 256, sunday % 256, kinds[0], kinds[1], errs[0], errs[1]));
        image.add(checkOf(image));
        return image.size();
    }

    private static int checkOf(List<Integer> bytes) {
        int c = 37;
        for (int b : bytes) {
            c = (7 * c + b) % 223;
        }
        return c;
    }

    int octet(int k) {
        return k < 0 || k >= image.size() ? NONE : image.get(k);
    }

    boolean on() {
        List<Integer> bytes = new ArrayList<>(tape);
        tape.clear();
        if (told == null || !isImage(bytes)) {
            refusals[5]++;
            return false;
        }
        int rules = bytes.get(0);
        List<Line> after = new ArrayList<>();
        for (int i = 0; i < rules; i++) {
            int flags = bytes.get(2 + 3 * i);
            after.add(new Line(bytes.get(1 + 3 * i), flags % 2 == 1, flags / 2 == 1, bytes.get(3 + 3 * i)));
        }
        slate = after;
        List<Integer> rest = bytes.subList(1 + 3 * rules, bytes.size());
        sunday = rest.get(0) * 256 + rest.get(1);
        kinds[0] = rest.get(2);
        kinds[1] = rest.get(3);
        errs[0] = rest.get(4);
        errs[1] = rest.get(5);
        olds.clear();
        begin();
        return true;
    }

    private boolean isImage(List<Integer> bytes) {
        int rules = told.rules().size();
        if (bytes.size() != 8 + 3 * rules || bytes.get(0) != rules) {
            return false;
        }
        Set<Integer> met = new HashSet<>();
        for (int i = 0; i < rules; i++) {
            int number = bytes.get(1 + 3 * i);
            int flags = bytes.get(2 + 3 * i);
            int n = bytes.get(3 + 3 * i);
            if (number >= rules || !met.add(number) || flags > 3) {
                return false;
            }
            Rule r = told.rules().get(number);
            boolean steps = r.way() == 0 || r.way() == 1;
            if (steps ? n < 1 || n > 3 : n != 0) {
                return false;
            }
            if (r.ever() && (number != i || flags != 0 || n != r.n())) {
                return false;
            }
        }
        List<Integer> rest = bytes.subList(1 + 3 * rules, bytes.size());
        return rest.get(2) <= 2 && rest.get(3) <= 2 && rest.get(4) <= 100 && rest.get(5) <= 100
            && rest.get(6) == checkOf(bytes.subList(0, bytes.size() - 1));
    }

    int status(int what) {
        return what < 0 || what > 5 ? NONE : refusals[what];
    }
}
