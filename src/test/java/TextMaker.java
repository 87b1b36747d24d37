import java.util.ArrayList;
import java.util.List;
import java.util.Random;

/** Makes texts of games by chance, and spoils some of them. */
final class TextMaker {
    private static final String[] NAMES = {"a", "b", "fox", "hen", "zzzzzz", "mi", "boards"};
    private static final String[] ODD = {"board", "piece", "at", "of", "ever", "stuck", "loses", "draws", "wins", "may",
        "not", "up", "down", "off", "when", "or", "and", "all", "spot", "goal", "who", "min", "max", "a", "fox", "cow",
        "abcdefg", "12345", "0", "3", "10", "9999", ";", ",", "(", ")", "[", "]", "<", ">", "=", "+", "-", "*", "/",
        "%", "!", "A", "\u00e9", "((((((((", "[[[[[[[[", "not not", "stuck wins;", "board 4;", "ever may",
        "piece cow at 1 of 1;", "piece fox at 1 of 1;",
        "piece cow at 9 of 1;", "piece cow at 0 of 3;", "may fox up 4 when all;", "may fox down 0 when all;",
        "not hen off when cow=1;", "wins when fox=hen foo;", "loses when 3or fox=1;"};
    private final Random random;
    private int fields;
    private int depth = 2;
    private List<String> names;

    TextMaker(Random random) {
        this.random = random;
    }

    private boolean chance(int percent) {
        return random.nextInt(100) < percent;
    }

    private String one(String... of) {
        return of[random.nextInt(of.length)];
    }

    String text() {
        depth = chance(8) ? 3 + random.nextInt(6) : 2;
        return chance(60) ? livelyText() : wildText();
    }

    /** A game in which there is mostly something to be done, and seldom an end at once. */
    private String livelyText() {
        fields = 4 + random.nextInt(6);
        names = new ArrayList<>(List.of("fox", "hen"));
        boolean oneForEach = chance(60);
        StringBuilder text = new StringBuilder("board " + fields + ";");
        text.append("piece fox at ").append(random.nextInt(fields)).append(" of ").append(oneForEach ? 0 : 2).append(";");
        text.append("piece hen at ").append(random.nextInt(fields)).append(" of ").append(oneForEach ? 1 : 2).append(";");
        for (String name : names) {
            text.append("may ").append(name).append(chance(70) ? " up " : " down ").append(1 + random.nextInt(3))
                .append(" when ").append(chance(70) ? "all" : test(1)).append(";");
            if (chance(60)) {
                text.append("may ").append(name).append(chance(40) ? " up " : " down ").append(1 + random.nextInt(3))
                    .append(" when ").append(chance(60) ? "all" : test(1)).append(";");
            }
        }
        int more = random.nextInt(5);
        for (int i = 0; i < more; i++) {
            text.append(chance(10) ? "ever " : "").append(rule(0, 1)).append(";");
        }
        int ends = 1 + random.nextInt(3);
        for (int i = 0; i < ends; i++) {
            String end = chance(50) ? one(names.get(0), names.get(1)) + "=" + one("0", "1", String.valueOf(fields - 1),
                String.valueOf(fields)) + one("", "", " and who=" + random.nextInt(2)) : one("goal=fox and goal=hen",
                "fox=hen", "fox>hen", "fox+hen=" + fields, "goal=" + (fields - 1), "fox=hen and who=0");
            text.append(chance(10) ? "ever " : "").append(one("wins", "loses")).append(" when ").append(end).append(";");
        }
        if (chance(50)) {
            text.append("stuck ").append(one("loses", "draws", "wins")).append(";");
        }
        return text.toString();
    }

    private String wildText() {
        fields = 2 + random.nextInt(8);
        if (chance(50)) {
            fields = 3 + random.nextInt(4);
        }
        names = new ArrayList<>();
        StringBuilder text = new StringBuilder("board " + fields + ";");
        int pieces = chance(10) ? random.nextInt(3) : 1 + random.nextInt(2);
        int rules = chance(20) ? random.nextInt(14) : 4 + random.nextInt(8);
        while (names.size() < pieces) {
            addPiece(text);
        }
        for (int i = 0; i < rules; i++) {
            text.append(chance(10) ? "ever " : "").append(rule(i, rules)).append(";");
            if (chance(8)) {
                text.append("stuck ").append(one("loses", "draws", "wins")).append(chance(20) ? " ; " : ";");
            }
        }
        return text.toString();
    }

    private void addPiece(StringBuilder text) {
        String name = one(NAMES);
        if (!names.contains(name)) {
            names.add(name);
            text.append("piece ").append(name).append(" at ").append(random.nextInt(fields)).append(" of ")
                .append(chance(40) ? 2 : random.nextInt(3)).append(";");
        }
    }

    private String rule(int i, int rules) {
        boolean moves = !names.isEmpty() && (i * 3 < rules * 2 ? chance(90) : chance(20));
        if (!moves) {
            return one("wins", "loses") + " when " + test(depth);
        }
        String name = names.get(random.nextInt(names.size()));
        String way = chance(10) ? "off" : one("up", "down") + " " + (1 + random.nextInt(3));
        return (chance(75) ? "may " : "not ") + name + " " + way + " when " + (chance(40) ? "all" : test(depth));
    }

    private String test(int depth) {
        int pick = random.nextInt(12);
        if (depth == 0 || pick < (depth > 2 ? 1 : 6)) {
            return sum(depth > 2 ? depth : 1) + one("<", ">", "=") + sum(1);
        }
        switch (pick) {
            case 6: return test(depth - 1) + " or " + test(depth - 1);
            case 7: return test(depth - 1) + " and " + test(depth - 1);
            case 8: return "not " + test(depth - 1);
            case 9: return "[" + test(depth - 1) + "]";
            case 10: return "all";
            default: return "spot" + one("<", ">", "=") + "goal";
        }
    }

    private String sum(int depth) {
        int pick = random.nextInt(12);
        if (depth == 0 || pick < (depth > 2 ? 3 : 7)) {
            return part();
        }
        switch (pick) {
            case 7: return part() + one("+", "-", "-") + sum(depth - 1);
            case 8: return part() + one("*", "/", "%") + part();
            case 9: return "(" + sum(depth - 1) + one("-", "+") + part() + ")" + one("/", "%") + part();
            case 10: return one("min", "max") + "(" + sum(depth - 1) + "," + sum(depth - 1) + ")";
            default: return "9999*9999*" + part() + one("+", "-", "/", "%") + part();
        }
    }

    private String part() {
        int pick = random.nextInt(10);
        if (pick < 4 || names.isEmpty()) {
            return one("spot", "goal", "who", "goal", String.valueOf(random.nextInt(fields + 2)));
        }
        return pick < 7 ? String.valueOf(random.nextInt(fields + 1)) : names.get(random.nextInt(names.size()));
    }

    String spoiled(String text) {
        StringBuilder spoiled = new StringBuilder(text);
        int times = 1 + random.nextInt(2);
        for (int i = 0; i < times; i++) {
            int at = random.nextInt(spoiled.length() + 1);
            switch (random.nextInt(6)) {
                case 0:
                    spoiled.insert(at, one(ODD));
                    break;
                case 1:
                    spoiled.insert(at, " " + one(ODD) + " ");
                    break;
                case 2:
                    spoiled.setLength(at);
                    break;
                case 3:
                    spoiled.insert(at, "\n ");
                    break;
                case 4:
                    spoiled.insert(spoiled.indexOf(";") + 1, one(ODD) + " ");
                    break;
                default:
                    if (at < spoiled.length()) {
                        spoiled.deleteCharAt(at);
                    }
                    break;
            }
        }
        return spoiled.toString();
    }
}
