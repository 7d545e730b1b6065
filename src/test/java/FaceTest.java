import java.io.IOException;
import java.lang.management.ManagementFactory;
import java.lang.reflect.Constructor;
import java.lang.reflect.Field;
import java.lang.reflect.Method;
import java.lang.reflect.Modifier;
import java.nio.file.Files;
import java.nio.file.Path;
import java.util.Arrays;
import java.util.Map;
import java.util.Set;
import java.util.TreeMap;
import java.util.TreeSet;
import java.util.regex.Matcher;
import java.util.regex.Pattern;

/** The document's public face, the rules of LANGUAGE.md that can be seen from outside, and the room of a run. */
public final class FaceTest {
    private static final String[] METHODS = {"int worker(int,int)", "int feast(int)", "int kind(int,int,int)",
        "int rule(int,int,int,int)", "int rate(int,int,int)", "int surcharge(int,int,int,int)", "int exclude(int,int)",
        "int target(int,int,int)", "int limits(int,int,int)", "int absent(int,int,int)", "int mark(int,int,int,int)",
        "int late(int,int,int,int)", "int unmark(int,int,int)", "int marked(int,int,int)", "int day(int,int,int)",
        "int shifts(int,int,int)", "int minute(int,int,int)", "int minutes(int,int,int)", "int why(int,int,int)",
        "int counts(int,int,int,int,int)", "long cents(int,int)", "int due(int,int)", "int close()", "int open()",
        "long month(int,int,int)", "long sum(int,int,int)", "int count(int)"};
    private static final String SOURCE = "src/main/java/ShiftLedger.java";
    private static int wrong = 0;

    private static void must(boolean holds, String what) {
        if (!holds) {
            wrong++;
            System.out.println("does not hold: " + what);
        }
    }

    public static void main(String[] args) throws Exception {
        constants();
        members();
        classesInside();
        source();
        callsAndLengths();
        room();
        System.out.println(wrong == 0 ? "the face is as due" : wrong + " things are not as due");
        if (wrong != 0) System.exit(1);
    }

    private static void constants() {
        must(ShiftLedger.NONE == -1 && ShiftLedger.BAD == -2, "NONE and BAD");
        must(ShiftLedger.STATE == -3 && ShiftLedger.FULL == -4, "STATE and FULL");
    }

    private static void members() {
        Class<?> face = ShiftLedger.class;
        must(Modifier.isPublic(face.getModifiers()) && Modifier.isFinal(face.getModifiers()), "public and final");
        Constructor<?>[] made = face.getDeclaredConstructors();
        must(made.length == 1 && made[0].getParameterCount() == 0 && Modifier.isPublic(made[0].getModifiers()), "constructor");
        Set<String> found = new TreeSet<>();
        for (Method method : face.getDeclaredMethods()) {
            if (!Modifier.isPrivate(method.getModifiers())) {
                must(Modifier.isPublic(method.getModifiers()) && !Modifier.isStatic(method.getModifiers()), method + " is public");
                found.add(written(method));
            }
        }
        must(found.equals(new TreeSet<>(Arrays.asList(METHODS))), "the public methods " + found);
        for (Field field : face.getDeclaredFields()) {
            boolean constant = Set.of("NONE", "BAD", "STATE", "FULL").contains(field.getName());
            must(Modifier.isPrivate(field.getModifiers()) != constant, field + " is private");
            must(!Modifier.isStatic(field.getModifiers()) || Modifier.isFinal(field.getModifiers()), field + " is final");
        }
    }

    private static String written(Method method) {
        StringBuilder text = new StringBuilder();
        text.append(method.getReturnType()).append(' ').append(method.getName()).append('(');
        Class<?>[] types = method.getParameterTypes();
        for (int i = 0; i < types.length; i++) text.append(i == 0 ? "" : ",").append(types[i]);
        return text.append(')').toString();
    }

    private static void classesInside() {
        Set<String> names = new TreeSet<>();
        for (String method : METHODS) names.add(method.replaceAll("^\\w+ |\\(.*$", ""));
        Class<?>[] inside = ShiftLedger.class.getDeclaredClasses();
        must(inside.length <= 12, "some twelve classes");
        for (Class<?> one : inside) {
            must(Modifier.isStatic(one.getModifiers()), one + " is static");
            must(!Modifier.isPublic(one.getModifiers()) && !Modifier.isProtected(one.getModifiers()), one + " is not public");
            must(one.getDeclaredFields().length <= 20, one + " has some twenty fields");
            for (Method method : one.getDeclaredMethods()) {
                must(!Modifier.isPrivate(method.getModifiers()) || !names.contains(method.getName()), method + " has a name of the face");
                must(method.getParameterCount() <= 7, method + " has at most seven parameters");
            }
        }
        for (Method method : ShiftLedger.class.getDeclaredMethods()) {
            must(!Modifier.isPrivate(method.getModifiers()) || !names.contains(method.getName()), method + " has a name of the face");
            must(method.getParameterCount() <= 7, method + " has at most seven parameters");
        }
    }

    private static String codeOfSource() throws IOException {
        String text = Files.readString(Path.of(SOURCE));
        return text.replaceAll("(?s)/\\*.*?\\*/", " ").replaceAll("//[^\n]*", " ");
    }

    private static void source() throws IOException {
        String code = codeOfSource();
        String[] banned = {"throw", "throws", "try", "catch", "synchronized", "assert", "package", "hashCode", "System\\.out",
            "\\w+Exact", "volatile", "native", "protected"};
        for (String word : banned) {
            must(!Pattern.compile("\\b" + word + "\\b").matcher(code).find(), "the source is without " + word);
        }
        String withoutCases = code.replaceAll("\\b(case\\b[^\n:]*?|default\\s*)->", " ");
        must(!withoutCases.contains("->") && !code.contains("::"), "the source is without lambdas and method references");
        Matcher library = Pattern.compile("\\b(System|Arrays|Thread|Runtime|Class)\\.(\\w+)").matcher(code);
        Set<String> allowed = Set.of("System.arraycopy", "Arrays.copyOf", "Arrays.copyOfRange", "Arrays.fill");
        while (library.find()) must(allowed.contains(library.group()), "the library has " + library.group());
        Matcher brought = Pattern.compile("\\bimport\\s+([\\w.*]+)").matcher(code);
        Set<String> lists = Set.of("java.util.ArrayList", "java.util.List", "java.util.Arrays", "java.util.Iterator");
        while (brought.find()) must(lists.contains(brought.group(1)), "the library has " + brought.group(1));
    }

    /**
     * Methods of some sixty lines, and calls at most eight deep, those of the library too. Methods of one name in
     * several classes are taken for one, so that what is found is never less deep than what is there.
     */
    private static void callsAndLengths() throws IOException {
        String code = codeOfSource();
        Map<String, String> bodies = new TreeMap<>();
        Matcher method = Pattern.compile("\\b[\\w\\[\\]]+ (\\w+)\\([^()]*\\)\\s*\\{").matcher(code);
        while (method.find()) {
            if (method.group().matches("(?s)(else|new|return)\\b.*")) continue;
            String body = code.substring(method.end(), endOfBlock(code, method.end()));
            must(body.lines().count() <= 60, method.group(1) + " has some sixty lines");
            bodies.merge(method.group(1), body, String::concat);
        }
        for (String face : METHODS) must(bodies.containsKey(face.replaceAll("^\\w+ |\\(.*$", "")), "the source has " + face);
        for (String name : bodies.keySet()) {
            int deep = depthOf(name, bodies, 0);
            must(deep <= 8, "calls at most eight deep: " + name + " goes " + deep);
        }
    }

    private static int endOfBlock(String code, int from) {
        int open = 1;
        int i = from;
        while (i < code.length() && open > 0) {
            open += code.charAt(i) == '{' ? 1 : code.charAt(i) == '}' ? -1 : 0;
            i++;
        }
        return i;
    }

    /** How many calls stand open at once, that of the method itself among them. */
    private static int depthOf(String name, Map<String, String> bodies, int above) {
        if (!bodies.containsKey(name) || above > 20) return 1;
        int deepest = 0;
        Matcher call = Pattern.compile("(\\bnew )?\\b(\\w+)\\(").matcher(bodies.get(name));
        while (call.find()) {
            boolean isCall = call.group(1) == null && !Set.of("if", "for", "while", "switch", "return").contains(call.group(2));
            if (isCall) deepest = Math.max(deepest, depthOf(call.group(2), bodies, above + 1));
        }
        return 1 + deepest;
    }

    /** All calls of a run live in one room of 7.3 million elements, of four bytes and more mostly. */
    private static void room() {
        com.sun.management.ThreadMXBean threads =
            (com.sun.management.ThreadMXBean) ManagementFactory.getThreadMXBean();
        threads.getCurrentThreadAllocatedBytes();
        long before = threads.getCurrentThreadAllocatedBytes();
        ShiftLedger x = new ShiftLedger();
        for (int i = 0; i < 30; i++) x.worker(0, 0);
        busyCalls(x);
        long made = threads.getCurrentThreadAllocatedBytes() - before;
        must(made < 4 * 7300000, "a busy object stays within the room of a run: " + made);
    }

    private static void busyCalls(ShiftLedger x) {
        x.rate(0, 0, 1000);
        x.surcharge(255, 100, 900, 1000);
        x.surcharge(255, 800, 200, 1000);
        x.close();
        for (int i = 0; i < 200; i++) {
            x.late(0, i / 20, i * 7, i % 4);
            x.month(0, 35, i % 5);
        }
        for (int i = 0; i < 20; i++) {
            x.sum(0, i, 1);
            x.cents(0, i);
            x.minutes(0, i, 0);
        }
    }
}
