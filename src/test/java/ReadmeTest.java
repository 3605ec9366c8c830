import java.io.IOException;
import java.lang.reflect.Method;
import java.lang.reflect.Modifier;
import java.nio.file.Files;
import java.nio.file.Path;
import java.util.ArrayList;
import java.util.List;
import java.util.Set;
import java.util.TreeSet;
import java.util.regex.Matcher;
import java.util.regex.Pattern;

/**
 * README.md keeps its word: the calls that it shows answer as it says, and the ways that it tells to
 * run the tests run them. Run from the repository's root.
 */
public final class ReadmeTest {
    private static final Pattern FENCED = Pattern.compile("(?s)\n```(\\w+)\n(.*?)```");
    private static final String NEW_BAY = "CordBay bay = new CordBay();";
    private static final Pattern CALL =
        Pattern.compile("(int (\\w+) = )?(bay\\.(\\w+)\\([^;]*\\)); +// (-?[0-9.]+|true|false)(: .*)?");
    private static final Check check = new Check();

    public static void main(String[] args) throws IOException, InterruptedException {
        String readme = Files.readString(Path.of("README.md"));
        Path room = Files.createTempDirectory("readme");
        try {
            calls(pieces(readme, "java"), room);
            List<String> ways = pieces(readme, "sh");
            check.due("ways to run the tests", ways.size(), 2);
            if (ways.size() == 2) {
                allTests(ways.get(0), room.resolve("all"));
                oneTest(ways.get(1), room.resolve("one"));
            }
        } finally {
            Folder.delete(room);
        }
        check.end();
    }

    private static List<String> pieces(String readme, String language) {
        List<String> found = new ArrayList<>();
        Matcher fenced = FENCED.matcher(readme);
        while (fenced.find()) {
            if (fenced.group(1).equals(language)) {
                found.add(fenced.group(2));
            }
        }
        return found;
    }

    private static void calls(List<String> uses, Path room) throws IOException, InterruptedException {
        Set<String> shown = new TreeSet<>();
        StringBuilder program = new StringBuilder("final class ReadmeUse {\n"
            + "  static int wrong;\n"
            + "  static void due(String call, Object got, String want) {\n"
            + "    if (!want.equals(String.valueOf(got))) {\n"
            + "      wrong++;\n"
            + "      System.out.println(\"  README.md: \" + call + \" answered \" + got + \", it says \" + want);\n"
            + "    }\n"
            + "  }\n"
            + "  public static void main(String[] args) {\n");
        for (String use : uses) {
            check.due("a use begins with a new bay", use.startsWith(NEW_BAY + "\n"), true);
            program.append("    {\n");
            for (String line : use.split("\n")) {
                program.append("      ").append(line.equals(NEW_BAY) ? line : checked(line, shown)).append("\n");
            }
            program.append("    }\n");
        }
        program.append("    System.exit(wrong == 0 ? 0 : 1);\n  }\n}\n");
        check.due("calls that README.md shows: " + shown, shown.equals(namesOfFace()), true);

        Files.writeString(room.resolve("ReadmeUse.java"), program);
        String path = System.getProperty("java.class.path");
        Shell compiled = new Shell(room, "javac -cp '" + absolute(path) + "' -d . ReadmeUse.java");
        check.due("README.md's calls compile: " + compiled.said, compiled.code, 0);
        Shell run = new Shell(room, "java -cp '" + absolute(path) + ":.' ReadmeUse");
        check.due("README.md's calls answer as it says:\n" + run.said + "  exit code", run.code, 0);
    }

    /** The line's call together with the check of its answer. */
    private static String checked(String line, Set<String> shown) {
        Matcher call = CALL.matcher(line);
        if (!call.matches()) {
            check.due("a call with its answer beside it: " + line, false, true);
            return "";
        }
        shown.add(call.group(4));
        String made = call.group(1) == null ? "" : call.group(1) + call.group(3) + "; ";
        String got = call.group(1) == null ? call.group(3) : call.group(2);
        return made + "due(\"" + call.group(3) + "\", " + got + ", \"" + call.group(5) + "\");";
    }

    private static Set<String> namesOfFace() {
        Set<String> names = new TreeSet<>();
        for (Method method : CordBay.class.getDeclaredMethods()) {
            if (Modifier.isPublic(method.getModifiers())) {
                names.add(method.getName());
            }
        }
        return names;
    }

    private static String absolute(String path) {
        List<String> parts = new ArrayList<>();
        for (String part : path.split(":")) {
            parts.add(Path.of(part).toAbsolutePath().toString());
        }
        return String.join(":", parts);
    }

    private static void allTests(String way, Path room) throws IOException, InterruptedException {
        Path copy = copyWithFewTests(room);
        Shell run = new Shell(copy, way);
        check.due(way.trim() + " with tests that pass", run.code, 0);
        check.due("it runs EdgesTest", run.says("ok    EdgesTest"), true);
        check.due("it runs Promise01NewObjectTest", run.says("ok    Promise01NewObjectTest"), true);
        for (Path test : Folder.files(Path.of("../shared/tests"))) {
            String name = test.getFileName().toString().replace(".java", "");
            check.due("it runs " + test, run.says("ok    shared: " + name), true);
        }

        Path failing = copy.resolve("src/test/java/FailingTest.java");
        Files.writeString(failing, failingTest("FailingTest"));
        run = new Shell(copy, way);
        check.due(way.trim() + " with a test that fails", run.code, 1);
        check.due("it names FailingTest", run.says("FAIL  FailingTest"), true);
        check.due("it goes on behind it", run.says("ok    Promise01NewObjectTest"), true);
        Files.delete(failing);

        Files.writeString(copy.resolve("../shared/tests/FailingRuns.java"), failingTest("FailingRuns"));
        run = new Shell(copy, way);
        check.due(way.trim() + " with a shared test that fails", run.code, 1);
        check.due("it names FailingRuns", run.says("FAIL  shared: FailingRuns"), true);
    }

    private static void oneTest(String way, Path room) throws IOException, InterruptedException {
        Path copy = copyWithFewTests(room);
        Shell run = new Shell(copy, way);
        check.due(way.trim() + " with a test that passes", run.code, 0);
        check.due("it runs EdgesTest", run.says("tests of sentences"), true);

        Path source = copy.resolve("src/main/java/CordBay.java");
        String code = Files.readString(source);
        check.due("CordBay answers -2000 somewhere", code.contains("return -2000;"), true);
        Files.writeString(source, code.replace("return -2000;", "return -2001;"));
        run = new Shell(copy, way);
        check.due(way.trim() + " with a class that breaks promise 5", run.code, 1);
    }

    private static String failingTest(String name) {
        return "public final class " + name + " { public static void main(String[] args) { System.exit(1); } }\n";
    }

    /** This test is not among them, as it would run itself; a few others show what is to be shown. */
    private static Path copyWithFewTests(Path room) throws IOException {
        Path copy = room.resolve("main");
        Folder.copy(Path.of("src/main/java"), copy.resolve("src/main/java"));
        Folder.copy(Path.of("../shared"), room.resolve("shared"));
        Folder.copy(Path.of("../shared/tests"), room.resolve("shared/tests"));
        Folder.copy(Path.of(".ci"), copy.resolve(".ci"));
        Folder.copy(Path.of("src/test/java"), copy.resolve("src/test/java"));
        for (Path test : Folder.files(copy.resolve("src/test/java"))) {
            String name = test.getFileName().toString();
            boolean stays = name.equals("EdgesTest.java") || name.equals("Promise01NewObjectTest.java");
            if (name.endsWith("Test.java") && !stays) {
                Files.delete(test);
            }
        }
        return copy;
    }
}
