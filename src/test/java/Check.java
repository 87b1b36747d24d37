import java.nio.charset.StandardCharsets;

/** What the tests share: counting wrong answers, and feeding texts. */
final class Check {
    private int wrong = 0;
    private int asked = 0;

    void is(String what, long got, long due) {
        asked++;
        if (got != due) {
            wrong++;
            System.out.println(what + " answered " + got + ", due is " + due);
        }
    }

    void is(String what, boolean got, boolean due) {
        is(what, got ? 1 : 0, due ? 1 : 0);
    }

    boolean anyWrong() {
        return wrong != 0;
    }

    void finish() {
        System.out.println(asked + " answers, " + wrong + " of them wrong");
        if (wrong != 0) {
            System.exit(1);
        }
    }

    static int[] bytesOf(String text) {
        byte[] raw = text.getBytes(StandardCharsets.ISO_8859_1);
        int[] bytes = new int[raw.length];
        for (int i = 0; i < raw.length; i++) {
            bytes[i] = raw[i] & 255;
        }
        return bytes;
    }

    /** Puts these bytes, and no others, on an empty tape. */
    static void feed(SundayGame x, int... bytes) {
        for (int from = 0; from < bytes.length; from += 20) {
            int[] numbers = new int[5];
            for (int i = 0; i < 20; i++) {
                int octet = from + i < bytes.length ? bytes[from + i] : 32;
                numbers[i / 4] = numbers[i / 4] << 8 | octet;
            }
            x.feed(numbers[0], numbers[1], numbers[2], numbers[3], numbers[4]);
        }
        x.end(bytes.length);
    }

    static void feed(SundayGame x, String text) {
        feed(x, bytesOf(text));
    }

    static SundayGame gameOf(String text) {
        SundayGame x = new SundayGame();
        feed(x, text);
        if (x.game() < 0) {
            throw new IllegalStateException("fault " + x.fault(0) + " at " + x.fault(1) + " of " + text);
        }
        return x;
    }

    static int[] imageOf(SundayGame x) {
        int[] bytes = new int[x.image()];
        for (int i = 0; i < bytes.length; i++) {
            bytes[i] = x.octet(i);
        }
        return bytes;
    }

    /** Mends the last byte of an image whose others were changed. */
    static int[] sealed(int[] bytes) {
        int check = 37;
        for (int i = 0; i + 1 < bytes.length; i++) {
            check = (7 * check + bytes[i]) % 223;
        }
        int[] mended = bytes.clone();
        mended[bytes.length - 1] = check;
        return mended;
    }
}
