import java.io.IOException;
import java.lang.reflect.Method;
import java.lang.reflect.Modifier;
import java.nio.file.DirectoryStream;
import java.nio.file.Files;
import java.nio.file.Path;
import java.util.ArrayList;
import java.util.Arrays;
import java.util.List;
import java.util.Set;
import java.util.TreeSet;
import java.util.regex.Matcher;
import java.util.regex.Pattern;

/** What README.md says must be true: the answers of its run of calls, and the names of the calls and the tests. */
public final class ReadmeTest {
    private static final Pattern CALL = Pattern.compile("(?:int (\\w+) = )?ledger\\.(\\w+)\\(([^)]*)\\);\\s+// (-?\\d+)\\b.*");
    private static int wrong = 0;

    private static void must(boolean holds, String what) {
        if (!holds) {
            wrong++;
            System.out.println("does not hold: " + what);
        }
    }

    public static void main(String[] args) throws Exception {
        String text = Files.readString(Path.of("README.md"));
        int calls = runOf(between(text, "```java\n", "```"));
        must(calls >= 10, "the run in README.md has calls: " + calls);
        namesOfCalls(text);
        namesOfTests(text);
        System.out.println(wrong == 0 ? "README.md is true of what lies here" : wrong + " things in README.md are not true");
        if (wrong != 0) System.exit(1);
    }

    private static String between(String text, String begin, String end) {
        int from = text.indexOf(begin);
        int to = from < 0 ? -1 : text.indexOf(end, from + begin.length());
        must(to >= 0, "README.md has a run of calls");
        return to < 0 ? "" : text.substring(from + begin.length(), to);
    }

    /** Makes each call of the run, and holds its answer against the number that stands behind it. */
    private static int runOf(String run) throws ReflectiveOperationException {
        ShiftLedger ledger = new ShiftLedger();
        String variable = "";
        long itsAnswer = 0;
        int calls = 0;
        for (String line : run.split("\n")) {
            if (line.isBlank() || line.equals("ShiftLedger ledger = new ShiftLedger();")) continue;
            Matcher call = CALL.matcher(line);
            if (!call.matches()) {
                must(false, "this is a call with its answer: " + line);
                continue;
            }
            long answer = answerOf(ledger, call.group(2), numbersIn(call.group(3), variable, itsAnswer));
            must(answer == Long.parseLong(call.group(4)), line + " (it answered " + answer + ")");
            if (call.group(1) != null) {
                variable = call.group(1);
                itsAnswer = answer;
            }
            calls++;
        }
        return calls;
    }

    private static Object[] numbersIn(String list, String variable, long itsAnswer) {
        List<Object> numbers = new ArrayList<>();
        for (String one : list.split(",")) {
            String word = one.trim();
            if (word.equals(variable)) numbers.add((int) itsAnswer);
            else if (!word.isEmpty()) numbers.add(Integer.parseInt(word));
        }
        return numbers.toArray();
    }

    private static long answerOf(ShiftLedger ledger, String name, Object[] numbers) throws ReflectiveOperationException {
        Class<?>[] types = new Class<?>[numbers.length];
        Arrays.fill(types, int.class);
        return ((Number) ShiftLedger.class.getMethod(name, types).invoke(ledger, numbers)).longValue();
    }

    private static void namesOfCalls(String text) {
        for (Method method : ShiftLedger.class.getDeclaredMethods()) {
            boolean isOfTheFace = Modifier.isPublic(method.getModifiers());
            must(!isOfTheFace || text.contains("`" + method.getName() + "`"), "README.md names " + method.getName());
        }
    }

    private static void namesOfTests(String text) throws IOException {
        Set<String> here = new TreeSet<>();
        try (DirectoryStream<Path> files = Files.newDirectoryStream(Path.of("src/test/java"), "*.java")) {
            for (Path file : files) here.add(file.getFileName().toString().replace(".java", ""));
        }
        Set<String> named = new TreeSet<>();
        Matcher name = Pattern.compile("`(\\w+Test)`").matcher(text);
        while (name.find()) named.add(name.group(1));
        must(named.equals(here), "README.md names the tests " + here + ", it has " + named);
    }
}
