import java.io.File;
import java.io.IOException;
import java.lang.reflect.InvocationTargetException;
import java.lang.reflect.Method;
import java.lang.reflect.Modifier;
import java.nio.file.Files;
import java.nio.file.Path;
import java.util.ArrayList;
import java.util.HashMap;
import java.util.List;
import java.util.Map;
import java.util.TreeSet;
import java.util.regex.Matcher;
import java.util.regex.Pattern;

/**
 * Makes the calls of README.md's example, as they stand there, and compares each answer that it states.
 * It reads the page itself, so that page and test can't come apart; a line that it can't read is a fault.
 */
public final class ReadmeTest {
    private static final Pattern MADE = Pattern.compile("Meetjoin house = new Meetjoin\\(\\);");
    private static final Pattern CALL = Pattern.compile(
        "(?:(\\w+) (\\w+) = )?house\\.(\\w+)\\(([^()]*)\\);\\s+// (throws \\w+|\"[^\"]*\"|[^\\s:]+): \\S.*");
    private static final Pattern ROW_OF_CALL = Pattern.compile("\\| `(\\w+)\\(([^()]*)\\)` \\| \\S.*");
    private static final Pattern ROW_OF_TESTS = Pattern.compile("\\| (\\w+Test(?:, \\w+Test)*) \\| \\S.*");
    private static final int LEAST_ANSWERS = 30;

    private final Check c = new Check("ReadmeTest");
    private final Map<String, Object> named = new HashMap<>();
    private Meetjoin house = null;
    private int answers = 0;

    public static void main(String[] args) throws IOException {
        new ReadmeTest().read(Files.readAllLines(Path.of("README.md")));
    }

    private void read(List<String> page) {
        c.at("the example of README.md");
        boolean isJava = false;
        for (String line : page) {
            if (line.startsWith("```")) {
                isJava = line.equals("```java");
            } else if (isJava && !line.isBlank() && !line.startsWith("// ")) {
                example(line);
            }
        }
        c.due("it states " + LEAST_ANSWERS + " answers and more", answers >= LEAST_ANSWERS, true);
        c.at("the tables of README.md");
        c.due("the calls", callsIn(page), callsOfTheFace());
        c.due("the tests", testsIn(page), testsThatThereAre());
        c.end();
    }

    private void example(String line) {
        Matcher call = CALL.matcher(line);
        if (MADE.matcher(line).matches()) {
            house = new Meetjoin();
        } else if (house != null && call.matches()) {
            answer(line, call);
        } else {
            c.due("'" + line + "' can be read", false, true);
        }
    }

    private void answer(String line, Matcher call) {
        List<Object> given = new ArrayList<>();
        for (String one : wordsOf(call.group(4))) {
            given.add(valueOf(one));
        }
        Method method = methodOf(call.group(3));
        c.due("'" + line + "' is a call with known arguments", method != null && !given.contains(null)
            && method.getParameterCount() == given.size(), true);
        if (method == null || given.contains(null) || method.getParameterCount() != given.size()) {
            return;
        }
        Object got = answerOf(method, given);
        answers++;
        c.due("'" + line + "'", got, stated(call.group(5)));
        if (call.group(1) != null) {
            c.due("the type in '" + line + "'", call.group(1), method.getReturnType().getSimpleName());
            c.due("a new name in '" + line + "'", named.put(call.group(2), got), null);
        }
    }

    private Object answerOf(Method method, List<Object> given) {
        try {
            return method.invoke(house, given.toArray());
        } catch (InvocationTargetException e) {
            return "throws " + e.getCause().getClass().getSimpleName();
        } catch (IllegalAccessException | IllegalArgumentException e) {
            return "can't be called with these arguments";
        }
    }

    private static Object stated(String word) {
        if (word.startsWith("throws ")) {
            return word;
        }
        return word.startsWith("\"") ? word.substring(1, word.length() - 1) : constant(word);
    }

    private Object valueOf(String word) {
        return named.containsKey(word) ? named.get(word) : constant(word);
    }

    /** Null, if it is none. */
    private static Object constant(String word) {
        if (word.equals("true") || word.equals("false")) {
            return word.equals("true");
        }
        if (word.matches("0b[01]{1,31}")) {
            return Integer.parseInt(word.substring(2), 2);
        }
        return word.matches("0|-?[1-9][0-9]{0,8}") ? Integer.valueOf(word) : null;
    }

    private static List<String> wordsOf(String list) {
        return list.isEmpty() ? List.of() : List.of(list.split(", "));
    }

    private static Method methodOf(String name) {
        for (Method method : Meetjoin.class.getDeclaredMethods()) {
            if (Modifier.isPublic(method.getModifiers()) && method.getName().equals(name)) {
                return method;
            }
        }
        return null;
    }

    private static TreeSet<String> callsIn(List<String> page) {
        TreeSet<String> calls = new TreeSet<>();
        for (String line : page) {
            Matcher row = ROW_OF_CALL.matcher(line);
            if (row.matches()) {
                calls.add(row.group(1) + " of " + wordsOf(row.group(2)).size());
            }
        }
        return calls;
    }

    private static TreeSet<String> callsOfTheFace() {
        TreeSet<String> calls = new TreeSet<>();
        for (Method method : Meetjoin.class.getDeclaredMethods()) {
            if (Modifier.isPublic(method.getModifiers())) {
                calls.add(method.getName() + " of " + method.getParameterCount());
            }
        }
        return calls;
    }

    private static TreeSet<String> testsIn(List<String> page) {
        TreeSet<String> tests = new TreeSet<>();
        for (String line : page) {
            Matcher row = ROW_OF_TESTS.matcher(line);
            if (row.matches()) {
                tests.addAll(wordsOf(row.group(1)));
            }
        }
        return tests;
    }

    private static TreeSet<String> testsThatThereAre() {
        TreeSet<String> tests = new TreeSet<>();
        String[] files = new File("src/test/java").list();
        for (String file : files == null ? new String[0] : files) {
            if (file.endsWith("Test.java")) {
                tests.add(file.substring(0, file.length() - ".java".length()));
            }
        }
        return tests;
    }
}
