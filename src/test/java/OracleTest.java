import java.util.Random;

/** Long runs of calls by chance, each answer beside that of the plain reading of the document. */
public final class OracleTest {
    private final Check check;
    private final Random random;
    private final TextMaker maker;
    private SundayGame x;
    private Oracle due;
    private String where = "";

    private OracleTest(Check check, long seed) {
        this.check = check;
        this.random = new Random(seed);
        this.maker = new TextMaker(random);
    }

    public static void main(String[] args) {
        Check check = new Check();
        int runs = args.length > 0 ? Integer.parseInt(args[0]) : 400;
        long from = args.length > 1 ? Long.parseLong(args[1]) : 1;
        for (long seed = from; seed < from + runs && !check.anyWrong(); seed++) {
            new OracleTest(check, seed).run();
        }
        check.finish();
    }

    private int below(int n) {
        return random.nextInt(n);
    }

    /** Mostly what may be asked, now and then what may not. */
    private int about(int least, int most) {
        int pick = below(40);
        if (pick == 0) {
            return least - 1;
        }
        if (pick == 1) {
            return most + 1;
        }
        if (pick == 2) {
            return random.nextInt();
        }
        return least + below(most - least + 1);
    }

    private void is(String what, long got, long wanted) {
        check.is(where + " " + what, got, wanted);
    }

    private void is(String what, boolean got, boolean wanted) {
        check.is(where + " " + what, got, wanted);
    }

    private void run() {
        x = new SundayGame();
        due = new Oracle();
        long seed = below(1000000);
        where = "run " + seed;
        if (below(4) == 0) {
            ask(20);
        }
        int games = 1 + below(3);
        for (int i = 0; i < games && !check.anyWrong(); i++) {
            String text = maker.text();
            if (below(3) == 0) {
                text = maker.spoiled(text);
            }
            where = text + "\n";
            feed(Check.bytesOf(text));
            is("game", x.game(), due.game());
            is("fault(0)", x.fault(0), due.fault(0));
            is("fault(1)", x.fault(1), due.fault(1));
            ask(120);
        }
    }

    private void ask(int times) {
        for (int i = 0; i < times && !check.anyWrong(); i++) {
            askOne(below(40));
        }
    }

    private void feed(int... bytes) {
        for (int from = 0; from < bytes.length; from += 20) {
            int[] n = new int[5];
            for (int i = 0; i < 20; i++) {
                n[i / 4] = n[i / 4] << 8 | (from + i < bytes.length ? bytes[from + i] : 32);
            }
            is("feed", x.feed(n[0], n[1], n[2], n[3], n[4]), due.feed(n[0], n[1], n[2], n[3], n[4]));
        }
        is("end", x.end(bytes.length), due.end(bytes.length));
    }

    private void playSome() {
        for (int i = 0; i < 3; i++) {
            int position = due.played(0);
            int count = position < 0 ? 0 : due.lawful(position, -1);
            int code = count > 0 ? due.lawful(position, below(count)) : 0;
            int piece = below(8) == 0 ? about(0, 1) : code / 10;
            int goal = below(8) == 0 ? about(0, 9) : code % 10;
            is("move " + piece + " " + goal, x.move(piece, goal), due.move(piece, goal));
            int what = about(0, 3);
            is("played " + what, x.played(what), due.played(what));
        }
        is("hat", x.hat(), due.hat());
    }

    private void rowSome() {
        int[] row = new int[below(6)];
        Oracle side = due;
        for (int i = 0; i < row.length; i++) {
            row[i] = below(30);
        }
        if (row.length > 0 && due.has(4) > 0) {
            int start = due.played(2) == 0 ? due.played(0) : 0;
            int count = side.lawful(start, -1);
            row[0] = count > 0 ? side.lawful(start, below(count)) : row[0];
        }
        feed(row);
        is("row", x.row(), due.row());
    }

    private void imageSome() {
        is("image", x.image(), due.image());
        int length = x.image();
        int[] bytes = new int[length];
        for (int k = -1; k <= length; k++) {
            is("octet " + k, x.octet(k), due.octet(k));
            if (k >= 0 && k < length) {
                bytes[k] = x.octet(k);
            }
        }
        if (below(3) == 0) {
            playSome();
            is("sunday", x.sunday(), due.sunday());
        }
        int spoils = below(4);
        for (int i = 0; i < spoils; i++) {
            int at = below(length - 1);
            bytes[at] = below(4) == 0 ? below(256) : Math.max(0, bytes[at] + below(3) - 1);
        }
        bytes = below(8) == 0 ? bytes : Check.sealed(bytes);
        feed(bytes);
        is("on", x.on(), due.on());
        is("image", x.image(), due.image());
        for (int k = 0; k < length; k++) {
            is("octet " + k, x.octet(k), due.octet(k));
        }
    }

    private void askOne(int which) {
        int positions = Math.max(1, due.has(4));
        int p = about(0, positions - 1);
        int codes = Math.max(1, due.change(-1));
        int code = below(6) == 0 || due.change(-1) == 0 ? about(0, 71) : due.change(below(codes));
        switch (which) {
            case 0: case 1: playSome(); break;
            case 2: rowSome(); break;
            case 3: imageSome(); break;
            case 4: is("anew", x.anew(), due.anew()); break;
            case 5: case 6: case 7: askValue(p, about(0, 2)); break;
            case 8: askLawful(p, about(-1, 3)); break;
            case 9: is("worth", x.worth(), due.worth()); break;
            case 10: is("longest", x.longest(), due.longest()); break;
            case 11: askErrs(about(0, 1), about(0, 100)); break;
            case 12: case 13: askLikely(about(0, 40)); break;
            case 14: askChange(about(-1, codes)); break;
            case 15: is("outcome " + code, x.outcome(code), due.outcome(code)); break;
            case 16: case 17: askTurning(about(0, 2)); break;
            case 18: case 19: case 20: is("make " + code, x.make(code), due.make(code)); break;
            case 21: is("undo", x.undo(), due.undo()); break;
            case 22: case 23: askKind(about(0, 1), about(0, 2)); break;
            case 24: case 25: is("sunday", x.sunday(), due.sunday()); break;
            case 26: askWould(about(0, 1)); break;
            case 27: askPays(about(0, 1)); break;
            case 28: askPays(about(0, 100)); break;
            case 29: askRing(about(1, 12), about(0, 1)); break;
            case 30: is("spring", x.spring(), due.spring()); break;
            case 31: case 32: case 33: askParts(about(0, 1)); break;
            case 34: askHas(about(0, 7)); break;
            case 35: askRule(about(0, 8), about(0, 6)); break;
            case 36: askLetter(about(0, 1), about(0, 6)); break;
            case 37: askStatus(about(0, 5)); break;
            case 38: is("hat", x.hat(), due.hat()); break;
            default: askFault(about(0, 1)); break;
        }
    }

    private void askValue(int p, int what) {
        is("value " + p + " " + what, x.value(p, what), due.value(p, what));
    }

    private void askLawful(int p, int k) {
        is("lawful " + p + " " + k, x.lawful(p, k), due.lawful(p, k));
    }

    private void askErrs(int player, int part) {
        is("errs " + player + " " + part, x.errs(player, part), due.errs(player, part));
    }

    private void askLikely(int n) {
        is("likely " + n, x.likely(n), due.likely(n));
    }

    private void askChange(int k) {
        is("change " + k, x.change(k), due.change(k));
    }

    private void askTurning(int what) {
        is("turning " + what, x.turning(what), due.turning(what));
    }

    private void askKind(int player, int kind) {
        is("kind " + player + " " + kind, x.kind(player, kind), due.kind(player, kind));
    }

    private void askWould(int player) {
        is("would " + player, x.would(player), due.would(player));
    }

    private void askPays(int n) {
        is("pays " + n, x.pays(n), due.pays(n));
    }

    private void askRing(int n, int what) {
        is("ring " + n + " " + what, x.ring(n, what), due.ring(n, what));
    }

    private void askParts(int what) {
        is("parts " + what, x.parts(what), due.parts(what));
    }

    private void askHas(int what) {
        is("has " + what, x.has(what), due.has(what));
    }

    private void askRule(int place, int what) {
        is("rule " + place + " " + what, x.rule(place, what), due.rule(place, what));
    }

    private void askLetter(int piece, int k) {
        is("letter " + piece + " " + k, x.letter(piece, k), due.letter(piece, k));
    }

    private void askStatus(int what) {
        is("status " + what, x.status(what), due.status(what));
    }

    private void askFault(int what) {
        is("fault " + what, x.fault(what), due.fault(what));
    }
}
