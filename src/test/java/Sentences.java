import java.io.IOException;
import java.nio.file.Files;
import java.nio.file.Path;
import java.util.List;
import java.util.Map;
import java.util.TreeMap;
import java.util.function.Consumer;
import java.util.regex.Matcher;
import java.util.regex.Pattern;

/**
 * Tests that stand beside the sentence of the document that they hold the class to. A sentence must
 * stand in the document word for word, and at the end no sentence may be left without a test, but
 * for those that are told to name no boundary case.
 */
final class Sentences {
    /** "What it is" and "Terms", which hold for all promises. */
    private static final int COMMON = 0;
    private static final int PROMISES = 20;

    private final Map<Integer, String> said = new TreeMap<>();
    private final Map<Integer, String> untested = new TreeMap<>();
    private int tests;
    private int failed;

    Sentences(Path document) throws IOException {
        String text = Files.readString(document);
        said.put(COMMON, plain(part(text, "What it is") + part(text, "Terms")));
        for (int promise = 1; promise <= PROMISES; promise++) {
            String whole = plain(part(text, "Promise " + promise + ": [^\n]*"));
            said.put(promise, whole.replaceFirst("^`[^`]*`: ", ""));
        }
        untested.putAll(said);
    }

    private static String part(String text, String heading) {
        Matcher found = Pattern.compile("(?s)\n## " + heading + "\n(.*?)(?=\n## |$)").matcher(text);
        return found.find() ? found.group(1) : "";
    }

    private static String plain(String text) {
        return text.replaceAll("```\\w*", "").replaceAll("\\s+", " ").trim();
    }

    void test(int promise, String sentence, Consumer<Check> test) {
        int home = said.get(promise).contains(sentence) ? promise : COMMON;
        Check check = new Check();
        check.due("the document says so", said.get(home).contains(sentence), true);
        untested.put(home, untested.get(home).replace(sentence, "\n"));
        int ahead = check.asked();
        test.accept(check);
        check.due("the test asks something", check.asked() > ahead, true);
        tests++;
        if (check.wrong() > 0) {
            failed++;
            System.out.println("  that was of promise " + promise + ", \"" + sentence + "\"");
        }
    }

    /** Ends with exit code 1, if a test failed or a sentence has none. */
    void end(List<String> withoutBoundary) {
        untested.forEach((promise, left) -> {
            for (String piece : left.split("\n")) {
                if (!piece.isBlank() && !withoutBoundary.contains(piece.trim())) {
                    failed++;
                    System.out.println("  no test in " + promise + " of \"" + piece.trim() + "\"");
                }
            }
        });
        System.out.println("  " + tests + " tests of sentences");
        if (failed != 0) {
            System.exit(1);
        }
    }
}
