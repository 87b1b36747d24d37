import java.io.IOException;
import java.nio.file.Files;
import java.nio.file.Path;
import java.util.ArrayList;
import java.util.List;
import java.util.regex.Matcher;
import java.util.regex.Pattern;

/** What of LANGUAGE.md can be seen in the text of the source. */
public final class LanguageTest {
    private static final String[] FORBIDDEN = {"\\bthrow\\b", "\\btry\\b", "\\bcatch\\b", "\\bsynchronized\\b",
        "\\bassert\\b", "->", "::", "\\bvar\\b", "\\bSystem\\.(?!arraycopy)", "Exact\\b", "\\bhashCode\\b",
        "\\btoString\\b", "\\bprotected\\b", "\\bnull\\b", "Arrays\\.(?!fill|copyOf|copyOfRange)", "^package",
        "\\bnew \\w+\\(.*\\)\\s*\\{"};
    private static final String[] FACE = {"feed", "end", "game", "fault", "has", "letter", "rule", "lawful", "played",
        "move", "anew", "value", "worth", "hat", "longest", "row", "errs", "likely", "change", "outcome", "turning",
        "make", "undo", "kind", "sunday", "would", "pays", "ring", "spring", "parts", "image", "octet", "on", "status"};

    private final Check check = new Check();
    private final List<String> lines = new ArrayList<>();

    public static void main(String[] args) throws IOException {
        LanguageTest test = new LanguageTest();
        test.read(Path.of(System.getProperty("project.source", "src/main/java/SundayGame.java")));
        test.forbiddenWords();
        test.face();
        test.lengthOfMethods();
        test.imports();
        test.countClasses();
        test.check.finish();
    }

    /** Comments and what stands in quotes are no code. */
    private void read(Path source) throws IOException {
        for (String line : Files.readAllLines(source)) {
            String code = line.replaceAll("\"[^\"]*\"", "\"\"").replaceAll("//.*", "").replaceAll("/\\*\\*.*\\*/", "");
            lines.add(code);
        }
    }

    private void forbiddenWords() {
        for (String word : FORBIDDEN) {
            Pattern pattern = Pattern.compile(word);
            for (int i = 0; i < lines.size(); i++) {
                check.is("line " + (i + 1) + " has " + word, pattern.matcher(lines.get(i)).find(), false);
            }
        }
    }

    private void face() {
        Pattern method = Pattern.compile("^ +(?:private |static |final )*[\\w\\[\\]]+ (\\w+)\\([^)]*\\) \\{");
        Pattern open = Pattern.compile("^    public (?:static final )?\\w+ (\\w+)(?:\\(| =)");
        List<String> found = new ArrayList<>();
        for (int i = 0; i < lines.size(); i++) {
            Matcher m = method.matcher(lines.get(i));
            if (m.find()) {
                check.is("line " + (i + 1) + " has a name of the face", List.of(FACE).contains(m.group(1)), false);
            }
            Matcher o = open.matcher(lines.get(i));
            if (o.find()) {
                found.add(o.group(1));
            }
            boolean visible = lines.get(i).matches("    (?!private|public|\\}|//|/\\*)\\S.*");
            check.is("line " + (i + 1) + " has a visible member", visible, false);
        }
        List<String> due = new ArrayList<>(List.of("NONE"));
        due.addAll(List.of(FACE));
        check.is("the face is the document's", found.equals(due), true);
    }

    private void lengthOfMethods() {
        int from = 0;
        for (int i = 0; i < lines.size(); i++) {
            String line = lines.get(i);
            boolean opens = line.matches("^(    |        )\\S.*\\) \\{$");
            from = opens ? i : from;
            boolean closes = line.equals("    }") || line.equals("        }");
            check.is("the method at line " + (from + 1) + " is long", closes && from > 0 && i - from > 60
                && !lines.get(from).contains("class"), false);
            from = closes ? 0 : from;
            int parameters = opens ? line.replaceAll("[^,]", "").length() + 1 : 0;
            check.is("line " + (i + 1) + " has many parameters", parameters > 7, false);
        }
    }

    private void imports() {
        for (String line : lines) {
            check.is("import " + line, line.startsWith("import ") && !line.equals("import java.util.Arrays;"), false);
        }
    }

    private void countClasses() {
        long count = lines.stream().filter(line -> line.matches(".*\\b(class|enum|record|interface) \\w+.*\\{")).count();
        check.is("classes are more than some twelve", count > 14, false);
    }
}
