import java.io.IOException;
import java.lang.reflect.Constructor;
import java.lang.reflect.Method;
import java.lang.reflect.Modifier;
import java.nio.file.Files;
import java.nio.file.Path;
import java.util.ArrayList;
import java.util.Arrays;
import java.util.HashMap;
import java.util.HashSet;
import java.util.List;
import java.util.Map;
import java.util.Set;
import java.util.TreeSet;
import java.util.regex.Matcher;
import java.util.regex.Pattern;

/** The rules of LANGUAGE.md that a look at the source, or at the classes, can tell. */
final class LanguageTest {
    // Patterns of what rules 2, 4, 5, 6 and 13 forbid, and of texts that are joined by + (rule 10).
    private static final String[] FORBIDDEN = {"\\bthrows?\\b", "\\btry\\b", "\\bcatch\\b",
        "\\bfinally\\b", "\\bsynchronized\\b", "\\bassert\\b", "\\bpackage\\b", "Exact\\(", "::",
        "\\bstatic \\{", "\\bhashCode\\b", "\\bSystem\\b(?!\\.arraycopy)", "\\bThread\\b",
        "\\bRandom\\b", "\\bimport\\b(?! java\\.util\\.)", "\" \\+", "\\+ \"", "\\+= \"",
        "\\)\\s*->"};
    private static final String[] FACE = {"insert", "delete", "takeBack", "mark", "send", "hear",
        "hearAll", "clear", "letter", "editorOf", "waitingOf", "logOf", "by", "count", "inTheEnd",
        "both", "wouldSend", "undo", "type", "clearText", "fault", "play"};
    private static final Pattern HEAD = Pattern.compile(
            "^ +(?:(?:public|private|static|final|abstract) )*(?:[\\w<>\\[\\]]+ )?(\\w+)\\([^;]*$");
    private static final int MOST_LINES = 60;
    private static final int MOST_DEEP = 8;

    private final Checks checks;

    private LanguageTest(Checks checks) {
        this.checks = checks;
    }

    static void run(Checks checks, String file) {
        LanguageTest test = new LanguageTest(checks);
        test.face();
        test.nestedClasses();
        try {
            test.source(Files.readAllLines(Path.of(file)));
        } catch (IOException e) {
            checks.holds("the source " + file + " can be read", false);
        }
    }

    private void face() {
        Class<?> c = ReshapedTexts.class;
        checks.due("public and final", c.getModifiers(), Modifier.PUBLIC | Modifier.FINAL);
        Constructor<?>[] made = c.getDeclaredConstructors();
        checks.holds("one public constructor", made.length == 1
                && made[0].getModifiers() == Modifier.PUBLIC && made[0].getParameterCount() == 0);
        Set<String> names = new TreeSet<>();
        for (Method m : c.getDeclaredMethods()) {
            boolean isPublic = Modifier.isPublic(m.getModifiers());
            checks.holds(m + " is public or private",
                    isPublic || Modifier.isPrivate(m.getModifiers()) || m.isSynthetic());
            checks.holds(m + " answers int", !isPublic || m.getReturnType() == int.class);
            checks.holds(m + " has a name of its own", !isPublic || names.add(m.getName()));
            checks.holds(m + " has no public one's name",
                    isPublic || !Arrays.asList(FACE).contains(m.getName()));
        }
        checks.holds("the face's methods", names.equals(new TreeSet<>(Arrays.asList(FACE))));
        for (java.lang.reflect.Field f : c.getDeclaredFields()) {
            boolean isConstant = Set.of("INVALID_ARGUMENT", "NOT_POSSIBLE", "LIMIT_REACHED",
                    "NOT_FOUND").contains(f.getName());
            checks.holds("field " + f, isConstant ? f.getModifiers()
                    == (Modifier.PUBLIC | Modifier.STATIC | Modifier.FINAL)
                    : Modifier.isPrivate(f.getModifiers()));
        }
    }

    private void nestedClasses() {
        Class<?>[] nested = ReshapedTexts.class.getDeclaredClasses();
        checks.holds("some twelve classes at most", nested.length < 12);
        for (Class<?> c : nested) {
            checks.holds(c + " is static and not public", Modifier.isStatic(c.getModifiers())
                    && !Modifier.isPublic(c.getModifiers()));
            int own = 0;
            for (java.lang.reflect.Field f : c.getDeclaredFields()) {
                boolean isStatic = Modifier.isStatic(f.getModifiers());
                own += isStatic ? 0 : 1;
                checks.holds(f + " is final if static",
                        !isStatic || Modifier.isFinal(f.getModifiers()));
            }
            checks.holds(c + " has some twenty fields at most", own <= 20);
            for (Method m : c.getDeclaredMethods()) {
                checks.holds(m + " takes at most seven", m.getParameterCount() <= 7);
                checks.holds(m + " has no public one's name",
                        !Arrays.asList(FACE).contains(m.getName()));
            }
        }
    }

    private static String withoutComments(List<String> lines) {
        return String.join("\n", lines).replaceAll("(?s)/\\*.*?\\*/", "")
                .replaceAll("//[^\n]*", "");
    }

    private void source(List<String> lines) {
        String code = withoutComments(lines);
        for (String forbidden : FORBIDDEN) {
            checks.holds("no " + forbidden, !Pattern.compile(forbidden).matcher(code).find());
        }
        Map<String, String> bodies = bodiesOf(code);
        checks.holds("methods are found", !bodies.isEmpty());
        for (String name : bodies.keySet()) {
            int deep = depth(name, bodies, new HashMap<>(), new HashSet<>());
            checks.holds(name + " goes " + deep + " deep", deep <= MOST_DEEP);
        }
    }

    /** The body of each method; those of one name in several classes are taken together. */
    private Map<String, String> bodiesOf(String code) {
        Map<String, String> bodies = new HashMap<>();
        String name = null;
        String indent = "";
        StringBuilder body = new StringBuilder();
        for (String line : code.split("\n")) {
            if (name == null) {
                Matcher m = HEAD.matcher(line);
                if (m.find() && !line.contains("=")) {
                    name = m.group(1);
                    indent = line.substring(0, line.indexOf(line.trim()));
                    body.setLength(0);
                }
            } else if (line.equals(indent + "}")) {
                long length = body.toString().lines().count();
                checks.holds(name + " is short: " + length, length <= MOST_LINES);
                bodies.merge(name, body.toString(), String::concat);
                name = null;
            } else {
                body.append(line).append('\n');
            }
        }
        return bodies;
    }

    /** Calls by name: of two methods with one name the deeper counts, so this is never too low. */
    private static int depth(String name, Map<String, String> bodies, Map<String, Integer> known,
            Set<String> open) {
        if (known.containsKey(name)) {
            return known.get(name);
        }
        if (!open.add(name)) {
            return 0;
        }
        int deepest = 0;
        List<String> called = new ArrayList<>();
        Matcher m = Pattern.compile("\\b(\\w+)\\(").matcher(bodies.get(name));
        while (m.find()) {
            if (bodies.containsKey(m.group(1)) && !called.contains(m.group(1))) {
                called.add(m.group(1));
            }
        }
        for (String c : called) {
            deepest = Math.max(deepest, depth(c, bodies, known, open));
        }
        open.remove(name);
        known.put(name, deepest + 1);
        return deepest + 1;
    }
}
