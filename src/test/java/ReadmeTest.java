import java.io.IOException;
import java.lang.reflect.InvocationTargetException;
import java.lang.reflect.Method;
import java.lang.reflect.Modifier;
import java.nio.file.Files;
import java.nio.file.Path;
import java.util.ArrayList;
import java.util.List;
import java.util.Map;
import java.util.Set;
import java.util.TreeMap;
import java.util.TreeSet;
import java.util.regex.Matcher;
import java.util.regex.Pattern;
import java.util.stream.Stream;

/** README.md: each call that it shows gives the answer that stands behind it, and nothing is left untold. */
public final class ReadmeTest {
    private static final String BEGIN = "NineWells x = new NineWells();";
    private static final Pattern CALL = Pattern.compile("x\\.(\\w+)\\(([^()]*)\\);\\s+// (-?\\d+)(: .+)?");
    private static final Pattern ROW = Pattern.compile("\\| `(\\w+)\\(([^()]*)\\)` \\| .+ \\|");
    private static final Pattern ERROR_ROW = Pattern.compile("\\| (-\\d+) \\| ([A-Z]+) \\| .+ \\|");
    private static final String[] ERRORS = {"BEYOND", "NONE", "STATE", "FULL", "KIND"};
    private static final int LOW = -1000000000;
    private static final int MOST_CALLS = 512;

    private static final Map<String, Method> FACE = new TreeMap<>();
    private static final Set<String> shown = new TreeSet<>();
    private static final Set<Integer> answered = new TreeSet<>();
    private static final Set<String> listed = new TreeSet<>();
    private static final Map<String, Integer> named = new TreeMap<>();

    private static int passed;
    private static int failed;

    private static void ok(String what, boolean is) {
        if (is) {
            passed++;
        } else {
            failed++;
            System.out.println("README.md: not so: " + what);
        }
    }

    private static Object[] arguments(Method m, String told) {
        String[] words = told.isBlank() ? new String[0] : told.split(", ");
        Class<?>[] types = m.getParameterTypes();
        if (words.length != types.length) return null;
        Object[] all = new Object[words.length];
        for (int i = 0; i < words.length; i++) {
            boolean isLong = words[i].endsWith("L");
            if (isLong != (types[i] == long.class)) return null;
            if (isLong) all[i] = Long.decode(words[i].substring(0, words[i].length() - 1));
            else all[i] = Integer.decode(words[i]);
        }
        return all;
    }

    private static int answer(NineWells x, Method m, Object[] with) {
        try {
            return (Integer) m.invoke(x, with);
        } catch (IllegalAccessException | InvocationTargetException e) {
            throw new IllegalStateException(m + " can't be called", e);
        }
    }

    private static void call(NineWells x, int line, String shownLine) {
        Matcher m = CALL.matcher(shownLine);
        if (!m.matches()) {
            ok("line " + line + " is a call with its answer: " + shownLine, false);
            return;
        }
        Method method = FACE.get(m.group(1));
        Object[] with = method == null ? null : arguments(method, m.group(2));
        ok("line " + line + " is a call of the face: " + shownLine, with != null);
        if (with == null) return;
        int due = Integer.parseInt(m.group(3));
        int got = answer(x, method, with);
        ok("line " + line + ": " + shownLine + " answers " + got, got == due);
        if (due < LOW && m.group(4) != null) ok("line " + line + " names its ERROR", m.group(4).startsWith(": " + ERRORS[LOW - due - 1]));
        shown.add(m.group(1));
        answered.add(due);
    }

    /** One block of the page: its first line makes the object, each other is a call. */
    private static void block(int from, List<String> lines) {
        ok("the block at line " + from + " begins with a new object", !lines.isEmpty() && lines.get(0).equals(BEGIN));
        ok("the block at line " + from + " has calls, and no more than an object is good for", lines.size() > 1 && lines.size() - 1 <= MOST_CALLS);
        NineWells x = new NineWells();
        for (int i = 1; i < lines.size(); i++) call(x, from + i + 1, lines.get(i));
    }

    private static int parameters(String told) {
        return told.isBlank() ? 0 : told.split(", ").length;
    }

    private static void row(int line, String text) {
        Matcher m = ROW.matcher(text);
        if (m.matches()) {
            Method method = FACE.get(m.group(1));
            ok("line " + line + " tells a method of the face: " + text, method != null && method.getParameterCount() == parameters(m.group(2)));
            ok("line " + line + " tells it for the first time: " + text, listed.add(m.group(1)));
        }
        Matcher e = ERROR_ROW.matcher(text);
        if (e.matches()) named.put(e.group(2), Integer.parseInt(e.group(1)));
    }

    private static void page(List<String> lines) {
        List<String> block = null;
        int from = 0;
        for (int i = 0; i < lines.size(); i++) {
            String line = lines.get(i);
            if (block == null && line.equals("```java")) {
                block = new ArrayList<>();
                from = i + 1;
            } else if (block != null && line.equals("```")) {
                block(from, block);
                block = null;
            } else if (block != null) {
                block.add(line);
            } else {
                row(i + 1, line);
            }
        }
        ok("each block ends", block == null);
    }

    private static void wholeness() {
        ok("each method is shown with an answer: " + shown, shown.equals(FACE.keySet()));
        ok("each method is told in a table: " + listed, listed.equals(FACE.keySet()));
        ok("five ERRORS are told", named.size() == ERRORS.length);
        for (int k = 1; k <= ERRORS.length; k++) {
            ok(ERRORS[k - 1] + " is told as it is", Integer.valueOf(LOW - k).equals(named.get(ERRORS[k - 1])));
            ok(ERRORS[k - 1] + " is shown as an answer", answered.contains(LOW - k));
        }
    }

    private static void tests(String page) throws IOException {
        ok("how to run the tests", page.contains("\n    .ci/run\n") && Files.isExecutable(Path.of(".ci/run")));
        List<Path> files;
        try (Stream<Path> all = Files.list(Path.of("src/test/java"))) {
            files = all.sorted().toList();
        }
        for (Path file : files) {
            String name = file.getFileName().toString().replace(".java", "");
            ok(name + " is told", page.contains("`" + name + "`"));
        }
        Matcher m = Pattern.compile("`(\\w+Test)`").matcher(page);
        while (m.find()) ok(m.group(1) + " is there", Files.exists(Path.of("src/test/java", m.group(1) + ".java")));
    }

    public static void main(String[] args) throws IOException {
        for (Method m : NineWells.class.getDeclaredMethods()) {
            if (Modifier.isPublic(m.getModifiers())) FACE.put(m.getName(), m);
        }
        Path readme = Path.of("README.md");
        page(Files.readAllLines(readme));
        wholeness();
        tests(Files.readString(readme));
        System.out.println("ReadmeTest: " + passed + " passed, " + failed + " failed");
        if (failed != 0) System.exit(1);
    }
}
