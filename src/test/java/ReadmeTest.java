import java.io.IOException;
import java.lang.reflect.Method;
import java.lang.reflect.Modifier;
import java.nio.file.Files;
import java.nio.file.Path;
import java.util.ArrayList;
import java.util.List;
import java.util.Set;
import java.util.TreeSet;
import java.util.regex.Matcher;
import java.util.regex.Pattern;

/**
 * The Java examples of README.md, run line by line: each call answers what the comment behind it
 * says, and each call of the class is in an example. It is run where README.md is.
 */
public final class ReadmeTest {
    private static final Pattern MAKING =
        Pattern.compile("FuzzyTypeahead x = new FuzzyTypeahead\\((-?\\d+)\\);");
    /** A call, its argument if there is one, and the first word of the comment if there is one. */
    private static final Pattern CALL =
        Pattern.compile("x\\.(\\w+)\\((-?\\d+)?\\);(?:\\s*// (-?\\w+).*)?");

    private static final Set<String> shown = new TreeSet<>();
    private static FuzzyTypeahead object = null;
    private static int wrong = 0;

    public static void main(String[] args) throws IOException, ReflectiveOperationException {
        for (String line : exampleLines()) {
            runLine(line);
        }
        for (Method method : FuzzyTypeahead.class.getDeclaredMethods()) {
            if (Modifier.isPublic(method.getModifiers()) && !shown.contains(method.getName())) {
                fail("no example has " + method.getName());
            }
        }
        System.out.println(wrong == 0 ? "the README is right" : wrong + " lines are wrong");
        if (wrong != 0) {
            System.exit(1);
        }
    }

    private static void fail(String what) {
        wrong++;
        System.out.println("README.md: " + what);
    }

    private static List<String> exampleLines() throws IOException {
        List<String> lines = new ArrayList<>();
        boolean inExample = false;
        for (String line : Files.readAllLines(Path.of("README.md"))) {
            if (line.startsWith("```")) {
                inExample = line.equals("```java");
            } else if (inExample && !line.isBlank()) {
                lines.add(line);
            }
        }
        return lines;
    }

    private static void runLine(String line) throws ReflectiveOperationException {
        Matcher making = MAKING.matcher(line);
        Matcher call = CALL.matcher(line);
        if (making.matches()) {
            object = new FuzzyTypeahead(Integer.parseInt(making.group(1)));
        } else if (call.matches() && object != null) {
            shown.add(call.group(1));
            String got = answer(call.group(1), call.group(2));
            String told = told(call.group(3));
            if (!got.equals(told)) {
                fail(line + " answered " + got);
            }
        } else {
            fail("not understood: " + line);
        }
    }

    /** The answer, or nothing where the call answers nothing. */
    private static String answer(String name, String argument) throws ReflectiveOperationException {
        Object got;
        if (argument == null) {
            got = FuzzyTypeahead.class.getMethod(name).invoke(object);
        } else {
            Method method = FuzzyTypeahead.class.getMethod(name, int.class);
            got = method.invoke(object, Integer.parseInt(argument));
        }
        return got == null ? "" : got.toString();
    }

    private static String told(String word) {
        if (word == null) {
            return "";
        }
        return switch (word) {
            case "BAD_ARG" -> "-1";
            case "FULL" -> "-2";
            case "NONE" -> "-4";
            default -> word;
        };
    }
}
