import java.io.PrintWriter;
import java.io.StringWriter;
import java.lang.reflect.Constructor;
import java.lang.reflect.Field;
import java.lang.reflect.Method;
import java.lang.reflect.Modifier;
import java.nio.file.Files;
import java.nio.file.Path;
import java.util.List;
import java.util.Map;
import java.util.TreeMap;
import java.util.TreeSet;
import java.util.regex.Matcher;
import java.util.regex.Pattern;
import java.util.spi.ToolProvider;

/** The rules of LANGUAGE.md that a look at the text and at the compiled classes can tell. */
public final class LanguageTest {
    private static final Due DUE = new Due("LanguageTest");
    private static final String FACE = "road far feed name key join part link person tie word withdraw about root eyes"
        + " can quarrel could last rule finding find found bone bound least set missing fit namings only why give take"
        + " named count";

    public static void main(String[] args) throws Exception {
        String source = Files.readString(Path.of("src/main/java/LastSeen.java"));
        String code = source.replaceAll("(?s)/\\*.*?\\*/", "").replaceAll("//[^\n]*", "").replaceAll("'[^']+'", "0");
        words(code);
        face();
        inside();
        methods(code);
        depth();
        DUE.end();
    }

    private static void words(String code) {
        String[] none = {"\\bthrow\\b", "\\bthrows\\b", "\\btry\\b", "\\bcatch\\b", "\\bsynchronized\\b", "\\bassert\\b",
            "\\bimport\\b", "\\bpackage\\b", "->", "::", "\\bprotected\\b", "static\\s*\\{", "\\bException\\b", "\\bSystem\\b",
            "\\bObject\\b", "Exact\\(", "\\bInteger\\.(?!bitCount)", "\\bMath\\.(?!min|max)"};
        for (String word : none) DUE.is("how often " + word, 0, Pattern.compile(word).matcher(code).results().count());
        DUE.is("signs over 127", 0, code.chars().filter(sign -> sign > 127).count());
        // Rows are made once, with the object, since all calls of a run live in one room.
        for (String line : code.split("\n")) {
            if (!line.matches(".*\\bnew\\b.*")) continue;
            boolean once = line.matches("\\s+private final .* = new .*;") || line.matches(" {8}\\w+ = new .*;");
            DUE.is("made once: " + line.trim(), 1, once ? 1 : 0);
        }
    }

    private static void face() {
        TreeSet<String> want = new TreeSet<>(List.of(FACE.split(" ")));
        TreeSet<String> got = new TreeSet<>();
        for (Method method : LastSeen.class.getDeclaredMethods()) {
            if (method.isSynthetic()) continue;
            if (Modifier.isPublic(method.getModifiers())) got.add(method.getName());
            else {
                DUE.is(method.getName() + " is private", 1, Modifier.isPrivate(method.getModifiers()) ? 1 : 0);
                DUE.is(method.getName() + " is no name of the face", 0, want.contains(method.getName()) ? 1 : 0);
            }
        }
        DUE.is("the face's methods", 1, got.equals(want) ? 1 : 0);
        TreeSet<String> constants = new TreeSet<>();
        for (Field field : LastSeen.class.getDeclaredFields()) {
            if (Modifier.isPublic(field.getModifiers())) constants.add(field.getName());
            else DUE.is(field.getName() + " is private", 1, Modifier.isPrivate(field.getModifiers()) ? 1 : 0);
        }
        DUE.is("the face's constants", 1, constants.equals(new TreeSet<>(List.of("NONE", "BAD", "STATE", "FULL"))) ? 1 : 0);
        int makers = 0;
        for (Constructor<?> maker : LastSeen.class.getDeclaredConstructors()) if (!maker.isSynthetic()) makers++;
        DUE.is("constructors", 1, makers);
    }

    private static void inside() {
        Class<?>[] classes = LastSeen.class.getDeclaredClasses();
        DUE.is("twelve classes at most", 1, classes.length + 1 <= 12 ? 1 : 0);
        for (Class<?> one : classes) {
            DUE.is(one + " is static", 1, Modifier.isStatic(one.getModifiers()) ? 1 : 0);
            DUE.is(one + " is not public", 0, one.getModifiers() & (Modifier.PUBLIC | Modifier.PROTECTED));
            fields(one);
            for (Method method : one.getDeclaredMethods()) {
                DUE.is(one + " " + method.getName() + " is no name of the face", 0,
                    List.of(FACE.split(" ")).contains(method.getName()) ? 1 : 0);
            }
        }
        fields(LastSeen.class);
    }

    private static void fields(Class<?> one) {
        int fields = 0;
        for (Field field : one.getDeclaredFields()) {
            boolean isStatic = Modifier.isStatic(field.getModifiers());
            if (!isStatic) fields++;
            else DUE.is(field + " is a constant", 1, Modifier.isFinal(field.getModifiers()) ? 1 : 0);
        }
        DUE.is(one + " has some twenty fields at most", 1, fields <= 20 ? 1 : 0);
    }

    /** No call leads back to itself, and none goes more than eight deep. */
    private static void depth() {
        Map<String, TreeSet<String>> calls = new TreeMap<>();
        readCalls("LastSeen", calls);
        for (Class<?> one : LastSeen.class.getDeclaredClasses()) readCalls(one.getName(), calls);
        DUE.is("methods that call were seen", 1, calls.size() > 50 ? 1 : 0);
        for (String name : FACE.split(" ")) {
            int deep = depthOf("LastSeen." + name, calls, 1);
            DUE.is("depth of " + name + ", " + deep, 1, deep > 0 && deep <= 8 ? 1 : 0);
        }
    }

    private static int depthOf(String method, Map<String, TreeSet<String>> calls, int above) {
        int deep = above;
        if (above > 50) return above;
        for (String next : calls.getOrDefault(method, new TreeSet<>())) {
            deep = Math.max(deep, depthOf(next, calls, above + 1));
        }
        return deep;
    }

    /** Methods go by class and name, so that two of one name count as one. */
    private static void readCalls(String name, Map<String, TreeSet<String>> calls) {
        StringWriter text = new StringWriter();
        String path = System.getProperty("java.class.path");
        ToolProvider.findFirst("javap").orElseThrow().run(new PrintWriter(text), new PrintWriter(System.err),
            "-c", "-p", "-cp", path, name);
        String method = null;
        for (String line : text.toString().split("\n")) {
            Matcher head = Pattern.compile("^  [^ ].* ([a-zA-Z]+)\\(.*\\);$").matcher(line);
            if (head.find()) method = name + "." + head.group(1);
            Matcher call = Pattern.compile("invoke\\w+ +#\\d+ +// \\w*Method (\\S+):").matcher(line);
            if (!call.find() || method == null) continue;
            String called = call.group(1);
            if (called.indexOf('.') < 0) called = name + "." + called;
            calls.computeIfAbsent(method, key -> new TreeSet<>()).add(called);
        }
    }

    /** Each method has seven parameters and sixty lines at most. */
    private static void methods(String code) {
        Matcher method = Pattern.compile("(?m)^( +)[a-zA-Z\\[\\] ]*\\(([^)]*)\\) \\{$").matcher(code);
        int seen = 0;
        while (method.find()) {
            seen++;
            String head = method.group().trim();
            DUE.is("parameters of " + head, 1, method.group(2).split(",").length <= 7 ? 1 : 0);
            int end = code.indexOf("\n" + method.group(1) + "}\n", method.end());
            long lines = code.substring(method.end(), Math.max(end, method.end())).lines().count();
            DUE.is("lines of " + head + ", " + lines, 1, end > 0 && lines <= 60 ? 1 : 0);
        }
        DUE.is("methods were seen", 1, seen > 100 ? 1 : 0);
    }
}
