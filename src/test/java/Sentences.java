import java.io.IOException;
import java.nio.file.Files;
import java.nio.file.Path;

/**
 * The sentence of the document that a test is about. It stands ahead of each wrong answer, and must stand in the
 * document, in the place that is told: a test of a sentence that is no more there is a test of nothing. Where there is
 * no document beside the project, that alone is not looked at.
 */
final class Sentences {
    private final Check check = new Check();
    private final String document = read(Path.of(System.getProperty("project.doc", "../shared/DOC.md")));
    private String now = "";

    private static String read(Path path) {
        try {
            return folded(Files.readString(path));
        } catch (IOException e) {
            System.out.println("no document at " + path + ": its sentences are not looked up");
            return "";
        }
    }

    private static String folded(String text) {
        return text.replaceAll("\\s+", " ");
    }

    private String section(String head) {
        int from = document.indexOf("## " + head);
        if (from < 0) {
            return "";
        }
        int to = document.indexOf(" ## ", from + 3);
        return document.substring(from, to < 0 ? document.length() : to);
    }

    private void say(String label, String head, String quote) {
        now = label + ", \"" + quote + "\"";
        boolean stands = document.isEmpty() || section(head).contains(folded(quote));
        check.is(now + " stands in the document", stands, true);
    }

    void promise(int number, String quote) {
        say("promise " + number, "Promise " + number + ": ", quote);
    }

    /** A sentence of the terms, with the promise that it is for. */
    void term(int number, String quote) {
        say("terms, for promise " + number, "Terms ", quote);
    }

    void is(String what, long got, long due) {
        check.is(now + ": " + what, got, due);
    }

    void is(String what, boolean got, boolean due) {
        check.is(now + ": " + what, got, due);
    }

    void finish() {
        check.finish();
    }
}
