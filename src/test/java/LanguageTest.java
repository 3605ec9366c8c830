import java.io.IOException;
import java.lang.reflect.Executable;
import java.lang.reflect.Field;
import java.lang.reflect.Method;
import java.lang.reflect.Modifier;
import java.nio.file.Files;
import java.nio.file.Path;
import java.util.ArrayList;
import java.util.List;
import java.util.Set;
import java.util.TreeSet;
import java.util.regex.Matcher;
import java.util.regex.Pattern;

/** Rules of LANGUAGE.md that reflection or a search of the text can see. Run from the repository's root. */
public final class LanguageTest {
    private static final Set<String> FACE = new TreeSet<>(List.of(
        "int module(int,int)", "int cord(int,int,int)", "int from(int,int)", "int knob(int,int,int)",
        "int table(int,int)", "int write(int,int,int)", "int block(int)", "int back(int)", "int keep(int)",
        "int recall(int)", "int take(int)", "int equal(int,int)", "int row(int,int)", "double sample(int,int)",
        "boolean isNone(int,int)", "int order(int)", "int trace(int)", "int finding(int)", "int count(int)"));
    private static final List<String> WORDS = List.of("import", "package", "try", "catch", "finally", "throw",
        "throws", "synchronized", "assert", "native", "volatile", "protected", "strictfp", "NaN", "Double",
        "Float", "Short", "Byte", "Character", "Long", "Object", "equals", "hashCode", "toString", "var", "yield");
    private static final List<String> CALLS = List.of("Math.max", "Math.min", "Math.floorMod", "Integer.bitCount",
        "System.arraycopy");
    private static final Check check = new Check();

    public static void main(String[] args) throws IOException {
        face();
        List<Class<?>> classes = new ArrayList<>(List.of(CordBay.class.getDeclaredClasses()));
        check.due("classes at most 12", classes.size() < 12, true);
        classes.add(CordBay.class);
        for (Class<?> c : classes) {
            members(c);
        }
        String code = withoutComments(Files.readString(Path.of("src/main/java/CordBay.java")));
        words(code);
        methodLengths(code);
        check.end();
    }

    private static void face() {
        Set<String> shown = new TreeSet<>();
        Set<String> names = new TreeSet<>();
        for (Method m : CordBay.class.getDeclaredMethods()) {
            if (Modifier.isPublic(m.getModifiers())) {
                shown.add(signature(m));
                names.add(m.getName());
            }
        }
        check.due("the face is the document's: " + shown, shown.equals(FACE), true);
        for (Method m : CordBay.class.getDeclaredMethods()) {
            boolean isPublic = Modifier.isPublic(m.getModifiers());
            check.due(m + " is public or private", isPublic || Modifier.isPrivate(m.getModifiers()), true);
            check.due(m + " has a name of its own", isPublic || !names.contains(m.getName()), true);
        }
        for (Field f : CordBay.class.getDeclaredFields()) {
            check.due(f + " is private", Modifier.isPrivate(f.getModifiers()), true);
        }
        check.due("the class is final", Modifier.isFinal(CordBay.class.getModifiers()), true);
        check.due("constructors", CordBay.class.getDeclaredConstructors().length, 1);
    }

    private static String signature(Method m) {
        StringBuilder text = new StringBuilder(m.getReturnType() + " " + m.getName() + "(");
        for (Class<?> p : m.getParameterTypes()) {
            text.append(text.charAt(text.length() - 1) == '(' ? "" : ",").append(p);
        }
        return text.append(")").toString();
    }

    private static void members(Class<?> c) {
        int own = 0;
        for (Field f : c.getDeclaredFields()) {
            if (Modifier.isStatic(f.getModifiers())) {
                boolean plain = f.getType() == int.class || f.getType() == long.class || f.getType() == boolean.class;
                check.due(f + " is a constant", plain && Modifier.isFinal(f.getModifiers()), true);
            } else {
                own++;
            }
        }
        check.due("fields of " + c + " at most 20", own <= 20, true);
        check.due(c + " is static", c == CordBay.class || Modifier.isStatic(c.getModifiers()), true);
        List<Executable> all = new ArrayList<>(List.of(c.getDeclaredMethods()));
        all.addAll(List.of(c.getDeclaredConstructors()));
        for (Executable e : all) {
            check.due("parameters of " + e + " at most 7", e.getParameterCount() <= 7, true);
        }
    }

    private static String withoutComments(String code) {
        return code.replaceAll("(?s)/\\*.*?\\*/", "").replaceAll("//[^\n]*", "");
    }

    private static void words(String code) {
        for (String word : WORDS) {
            check.due("no '" + word + "'", Pattern.compile("\\b" + word + "\\b").matcher(code).find(), false);
        }
        check.due("no lambda, no method reference", code.contains("->") || code.contains("::"), false);
        Matcher calls = Pattern.compile("\\b(Math|Integer|System|Arrays|String)\\.\\w+").matcher(code);
        while (calls.find()) {
            check.due(calls.group() + " is in the library", CALLS.contains(calls.group()), true);
        }
        check.due("no sign beyond 127", code.chars().anyMatch(sign -> sign > 127), false);
    }

    /** Methods stand at one of two depths and end with a brace at the same depth. */
    private static void methodLengths(String code) {
        String[] lines = code.split("\n");
        for (int i = 0; i < lines.length; i++) {
            Matcher head = Pattern.compile("^( {4}| {8})(?!.*\\bclass\\b)\\w.*\\) \\{$").matcher(lines[i]);
            if (head.find()) {
                int end = i;
                while (end < lines.length && !lines[end].equals(head.group(1) + "}")) {
                    end++;
                }
                check.due(lines[i].trim() + " has at most 60 lines", end - i < 60, true);
            }
        }
    }
}
