import java.io.IOException;
import java.lang.reflect.InvocationTargetException;
import java.lang.reflect.Method;
import java.lang.reflect.Modifier;
import java.nio.file.Files;
import java.nio.file.Path;
import java.util.ArrayList;
import java.util.List;
import java.util.Map;
import java.util.TreeMap;
import java.util.TreeSet;
import java.util.regex.Matcher;
import java.util.regex.Pattern;
import java.util.stream.Stream;

// What README.md says holds: its example answers as it tells, it tells each call with its arguments and with the refusals
// that the document has for it, the numbers of the constants and findings, and each test by name.
public final class ReadmeTest {
    private static final Path ROOT = Path.of(System.getProperty("project.dir", "."));
    private static final Pattern EXAMPLE = Pattern.compile("map\\.(\\w+)\\((.*?)\\);\\s*// (-?\\d+)(:.*)?");
    private static final Pattern ROW = Pattern.compile("\\| `(\\w+)\\((.*?)\\)` \\| (.*) \\|");
    private static final Pattern PROMISE = Pattern.compile("`\\w+ (\\w+)\\((.*?)\\)`: (.*)");
    private static final Pattern REFUSAL = Pattern.compile("\\b(FULL|NOT|NONE|NULL|CAST|STORE|INDEX|SIZE)\\b");
    private static final Pattern FINDING = Pattern.compile("\\| finding (\\d), (\\w+) \\| (-\\d+) \\|");
    private static final Pattern CONSTANT = Pattern.compile("\\| `LessonWays\\.(\\w+)` \\| (-\\d+) \\|");
    private static final Pattern TEST = Pattern.compile("`(src/test/java/\\w+\\.java)`");

    private static int wrong = 0;

    private static void must(boolean holds, String what) {
        if (!holds) {
            wrong++;
            System.out.println("README.md: " + what);
        }
    }

    private static Map<String, Method> methods() {
        Map<String, Method> methods = new TreeMap<>();
        for (Method m : LessonWays.class.getDeclaredMethods()) {
            if (Modifier.isPublic(m.getModifiers())) {
                methods.put(m.getName(), m);
            }
        }
        return methods;
    }

    private static long call(LessonWays map, Method method, String arguments) {
        String[] told = arguments.isEmpty() ? new String[0] : arguments.split(", ");
        Object[] values = new Object[told.length];
        for (int i = 0; i < told.length; i++) {
            boolean isFlag = told[i].equals("true") || told[i].equals("false");
            values[i] = isFlag ? (Object) Boolean.valueOf(told[i]) : (Object) Integer.valueOf(told[i]);
        }
        try {
            return ((Number) method.invoke(map, values)).longValue();
        } catch (IllegalAccessException | InvocationTargetException e) {
            throw new IllegalStateException(method.getName(), e);
        }
    }

    private static void example(List<String> lines) {
        LessonWays map = new LessonWays();
        int calls = 0;
        for (String line : lines) {
            Matcher m = EXAMPLE.matcher(line);
            must(m.matches() || !line.startsWith("map."), "the example's line can't be read: " + line);
            if (m.matches()) {
                calls++;
                Method method = methods().get(m.group(1));
                must(method != null, "the example calls " + m.group(1));
                long got = method == null ? 0 : call(map, method, m.group(2));
                must(got == Long.parseLong(m.group(3)), line + " (it answers " + got + ")");
            }
        }
        must(calls > 40, "the example has " + calls + " calls only");
    }

    private static TreeSet<String> refusalsIn(String text) {
        TreeSet<String> refusals = new TreeSet<>();
        Matcher m = REFUSAL.matcher(text);
        while (m.find()) {
            refusals.add(m.group(1));
        }
        return refusals;
    }

    /** The document's promises: of each method its arguments' names, a stroke, and what is promised. */
    private static Map<String, String> promises() throws IOException {
        Map<String, String> promises = new TreeMap<>();
        for (String line : Files.readAllLines(ROOT.resolve("../shared/DOC.md"))) {
            Matcher m = PROMISE.matcher(line);
            if (m.matches()) {
                promises.put(m.group(1), m.group(2).replaceAll("(int|boolean) ", "") + "|" + m.group(3));
            }
        }
        return promises;
    }

    private static void calls(List<String> lines) throws IOException {
        Map<String, String> promises = promises();
        TreeSet<String> told = new TreeSet<>();
        for (String line : lines) {
            Matcher m = ROW.matcher(line);
            if (m.matches()) {
                String name = m.group(1);
                must(told.add(name), name + " is told twice");
                String promise = promises.getOrDefault(name, "|");
                int stroke = promise.indexOf('|');
                must(m.group(2).equals(promise.substring(0, stroke)), "the arguments of " + name);
                must(refusalsIn(m.group(3)).equals(refusalsIn(promise.substring(stroke))), "the refusals of " + name);
                boolean canBeBad = promise.contains("BAD") || name.equals("base");
                must(canBeBad == (methods().get(name).getParameterCount() > 0), "that " + name + " may answer BAD");
            }
        }
        must(told.equals(new TreeSet<>(methods().keySet())), "the calls told are " + told);
    }

    private static void numbers(String text) throws IOException {
        List<String> findings = new ArrayList<>();
        Matcher finding = FINDING.matcher(text);
        while (finding.find()) {
            findings.add(finding.group(2));
            must(Integer.parseInt(finding.group(3)) == -10 - Integer.parseInt(finding.group(1)), finding.group());
        }
        must(findings.equals(List.of("NULL", "INDEX", "CAST", "STORE", "SIZE")), "the findings are " + findings);
        Map<String, Integer> constants = new TreeMap<>();
        Matcher constant = CONSTANT.matcher(text);
        while (constant.find()) {
            constants.put(constant.group(1), Integer.valueOf(constant.group(2)));
        }
        must(constants.equals(Map.of("NONE", LessonWays.NONE, "BAD", LessonWays.BAD, "FULL", LessonWays.FULL, "NOT", LessonWays.NOT)),
            "the constants are " + constants);
    }

    private static void tests(String text) throws IOException {
        TreeSet<String> told = new TreeSet<>();
        Matcher m = TEST.matcher(text);
        while (m.find()) {
            told.add(m.group(1));
        }
        TreeSet<String> there = new TreeSet<>();
        try (Stream<Path> files = Files.list(ROOT.resolve("src/test/java"))) {
            files.forEach(file -> there.add("src/test/java/" + file.getFileName()));
        }
        must(told.equals(there), "the tests told are " + told);
        must(Files.isExecutable(ROOT.resolve(".ci/run")), ".ci/run can't be run");
    }

    public static void main(String[] args) throws IOException {
        Path page = ROOT.resolve("README.md");
        List<String> lines = Files.readAllLines(page);
        String text = Files.readString(page);
        example(lines);
        calls(lines);
        numbers(text);
        tests(text);
        System.out.println(wrong == 0 ? "README.md holds" : wrong + " faults");
        if (wrong != 0) {
            System.exit(1);
        }
    }
}
