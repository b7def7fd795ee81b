import java.io.IOException;
import java.lang.reflect.Constructor;
import java.lang.reflect.Field;
import java.lang.reflect.Method;
import java.lang.reflect.Modifier;
import java.nio.file.Files;
import java.nio.file.Path;
import java.util.ArrayList;
import java.util.Arrays;
import java.util.List;
import java.util.TreeSet;
import java.util.regex.Matcher;
import java.util.regex.Pattern;

// The face of the class, to the member, and those rules of LANGUAGE.md that a look at the class and its text can tell.
public final class FaceTest {
    private static final String[] FACE = {
        "int item(int, int, int)", "int other(int, int)", "int hours(int, int)", "int about(int, int)",
        "int served(int, int)", "int states()", "int state(int)", "int at(int)", "int top()", "int next(int)",
        "int last(int)", "int core(int)", "int reason(int, int)", "int test(int, int)", "int left()", "int ask()",
        "int answer(int, boolean)", "int unsure(int, boolean)", "int likely()", "long weight(int)", "long weights()",
        "int worst()", "int cost(int, int)", "int way(int, int, int)", "int ways(int)", "int learn(int)",
        "int use(int)", "int pass(int)", "int pupil(int)", "int sheet(int, int, int)", "int lose(int)",
        "int put(int, int, int, int)", "int get(int, int, int)", "int copy(int, int, int, int, int)",
        "int nearest(int)", "int far(int, int)", "int base(int)", "int atom(int, int)", "int misfit(int)",
        "int odd(int, int, int)", "int seen(int, int, int)", "int common(int)", "int judge(int, int)",
        "int count(int)", "long digest()"};

    private static final String[] RULED_OUT = {
        "throw", "throws", "try", "catch", "finally", "synchronized", "assert", "package", "protected", "yield",
        "volatile", "transient", "native", "strictfp", "var", "Object", "System.out", "Exact", "MAX_VALUE", "MIN_VALUE"};

    private static int wrong = 0;

    private static void must(boolean holds, String what) {
        if (!holds) {
            wrong++;
            System.out.println("not as the rules have it: " + what);
        }
    }

    private static String nameOf(Method m) {
        List<String> types = new ArrayList<>();
        for (Class<?> type : m.getParameterTypes()) {
            types.add(type.getName());
        }
        return m.getReturnType().getName() + " " + m.getName() + "(" + String.join(", ", types) + ")";
    }

    private static void face() {
        TreeSet<String> open = new TreeSet<>();
        TreeSet<String> hidden = new TreeSet<>();
        for (Method m : LessonWays.class.getDeclaredMethods()) {
            boolean isPublic = Modifier.isPublic(m.getModifiers());
            must(isPublic || Modifier.isPrivate(m.getModifiers()), m + " is neither public nor private");
            must(!isPublic || !Modifier.isStatic(m.getModifiers()), m + " is static");
            (isPublic ? open : hidden).add(isPublic ? nameOf(m) : m.getName());
        }
        must(open.equals(new TreeSet<>(Arrays.asList(FACE))), "the public methods are " + open);
        for (String method : FACE) {
            String name = method.substring(method.indexOf(' ') + 1, method.indexOf('('));
            must(!hidden.contains(name), "a private method bears the name " + name);
        }
        Constructor<?>[] made = LessonWays.class.getDeclaredConstructors();
        must(made.length == 1 && Modifier.isPublic(made[0].getModifiers()) && made[0].getParameterCount() == 0, "the constructor");
        int modifiers = LessonWays.class.getModifiers();
        must(Modifier.isPublic(modifiers) && Modifier.isFinal(modifiers), "the class is public and final");
        TreeSet<String> constants = new TreeSet<>();
        for (Field f : LessonWays.class.getDeclaredFields()) {
            if (!Modifier.isPrivate(f.getModifiers())) {
                must(Modifier.isPublic(f.getModifiers()) && f.getType() == int.class, f + " is no constant of the face");
                constants.add(f.getName());
            }
        }
        must(constants.equals(new TreeSet<>(List.of("NONE", "BAD", "FULL", "NOT"))), "the constants are " + constants);
    }

    private static void shape(Class<?> c) {
        int fields = 0;
        for (Field f : c.getDeclaredFields()) {
            boolean isStatic = Modifier.isStatic(f.getModifiers());
            must(!isStatic || Modifier.isFinal(f.getModifiers()), f + " is static, but not final");
            fields += isStatic ? 0 : 1;
        }
        must(fields <= 20, c + " has " + fields + " fields");
        for (Method m : c.getDeclaredMethods()) {
            must(m.getParameterCount() <= 7, m + " has too many parameters");
        }
        for (Class<?> inside : c.getDeclaredClasses()) {
            must(Modifier.isStatic(inside.getModifiers()), inside + " is not static");
            must(!Modifier.isPublic(inside.getModifiers()) && !Modifier.isProtected(inside.getModifiers()), inside + " is open");
            shape(inside);
        }
    }

    private static String withoutComments(String text) {
        return text.replaceAll("(?s)/\\*.*?\\*/", " ").replaceAll("//[^\n]*", " ");
    }

    private static void text() throws IOException {
        Path root = Path.of(System.getProperty("project.dir", "."));
        String whole = Files.readString(root.resolve("src/main/java/LessonWays.java"));
        String text = withoutComments(whole);
        for (String word : RULED_OUT) {
            must(!Pattern.compile("\\b\\w*" + Pattern.quote(word) + "\\b").matcher(text).find() || isPartOfAName(text, word), "the text has " + word);
        }
        must(!text.contains("->") && !text.contains("::") && !text.contains("@"), "no lambda, method reference or annotation");
        Matcher imports = Pattern.compile("import\\s+([^;]+);").matcher(text);
        while (imports.find()) {
            must(imports.group(1).matches("java\\.util\\.(Arrays|ArrayList|List|Iterator)"), "the text imports " + imports.group(1));
        }
        for (char sign : whole.toCharArray()) {
            must(sign < 128, "a sign beyond 127");
        }
        must(!Pattern.compile("\\bwhile\\s*\\(").matcher(text).find(), "each loop here is a counter's");
        lengths(whole);
    }

    private static boolean isPartOfAName(String text, String word) {
        return !Pattern.compile("\\b" + Pattern.quote(word) + "\\b").matcher(text).find() && !word.equals("Exact");
    }

    // A method begins with its head's line and ends with the closing line of the same indent.
    private static void lengths(String text) {
        String[] lines = text.split("\n");
        for (int i = 0; i < lines.length; i++) {
            if (lines[i].matches(" +(public |private |static |final )*\\w[\\w\\[\\]]* \\w+\\(.*\\{")) {
                String indent = lines[i].replaceAll("\\S.*", "");
                int end = i;
                while (end < lines.length && !lines[end].equals(indent + "}")) {
                    end++;
                }
                must(end - i < 60, "too long: " + lines[i].trim());
            }
        }
    }

    public static void main(String[] args) throws IOException {
        face();
        shape(LessonWays.class);
        must(LessonWays.class.getDeclaredClasses().length <= 11, "some twelve classes");
        text();
        System.out.println(wrong == 0 ? "the face and the rules hold" : wrong + " faults");
        if (wrong != 0) {
            System.exit(1);
        }
    }
}
