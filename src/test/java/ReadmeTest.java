import java.io.IOException;
import java.lang.reflect.Method;
import java.nio.file.Files;
import java.nio.file.Path;
import java.util.ArrayList;
import java.util.List;
import java.util.regex.Matcher;
import java.util.regex.Pattern;

/** The calls that README.md shows are made as they stand there, and must answer what it says. */
public final class ReadmeTest {
    private static final Pattern TEXT = Pattern.compile("^feed\\(x, \"([^\"]*)\"\\);$");
    private static final Pattern CALL = Pattern.compile("^x\\.(\\w+)\\(([-\\d, ]*)\\); +// (-?\\d+|true|false)( .*)?$");

    private final Check check = new Check();
    private final List<String> all = new ArrayList<>();
    private SundayGame x = new SundayGame();
    private int calls = 0;

    public static void main(String[] args) throws Exception {
        ReadmeTest test = new ReadmeTest();
        test.readPage();
        for (String line : test.all) {
            test.perform(line);
        }
        test.check.is("the page shows calls", test.calls > 20, true);
        test.everyCallIsNamed();
        test.check.finish();
    }

    private void readPage() throws IOException {
        Path source = Path.of(System.getProperty("project.source", "src/main/java/SundayGame.java"));
        Path root = source.toAbsolutePath().getParent().getParent().getParent().getParent();
        all.addAll(Files.readAllLines(root.resolve("README.md")));
    }

    private void perform(String line) throws Exception {
        Matcher text = TEXT.matcher(line);
        Matcher call = CALL.matcher(line);
        if (line.equals("SundayGame x = new SundayGame();")) {
            x = new SundayGame();
        } else if (text.matches()) {
            Check.feed(x, text.group(1));
        } else if (call.matches()) {
            check.is(line, answerOf(call.group(1), call.group(2)), numberOf(call.group(3)));
            calls++;
        } else {
            check.is("understood: " + line, line.startsWith("x."), false);
        }
    }

    private long answerOf(String name, String arguments) throws Exception {
        String[] told = arguments.isEmpty() ? new String[0] : arguments.split(", ");
        Object[] numbers = new Object[told.length];
        Class<?>[] types = new Class<?>[told.length];
        for (int i = 0; i < told.length; i++) {
            numbers[i] = Integer.valueOf(told[i]);
            types[i] = int.class;
        }
        Method method = SundayGame.class.getMethod(name, types);
        return numberOf(String.valueOf(method.invoke(x, numbers)));
    }

    private static long numberOf(String answer) {
        if (answer.equals("true") || answer.equals("false")) {
            return answer.equals("true") ? 1 : 0;
        }
        return Long.parseLong(answer);
    }

    private void everyCallIsNamed() {
        String page = String.join("\n", all);
        for (Method method : SundayGame.class.getMethods()) {
            if (method.getDeclaringClass() == SundayGame.class) {
                check.is("the page names " + method.getName(), page.contains("`" + method.getName() + "`"), true);
            }
        }
    }
}
