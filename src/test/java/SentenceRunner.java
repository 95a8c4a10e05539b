import java.io.IOException;
import java.lang.reflect.InvocationTargetException;
import java.lang.reflect.Method;
import java.nio.file.Files;
import java.nio.file.Path;
import java.util.ArrayList;
import java.util.Arrays;
import java.util.Comparator;
import java.util.HashMap;
import java.util.LinkedHashMap;
import java.util.List;
import java.util.Map;

/**
 * Runs the tests of single sentences. Each names its sentence, which has to stand in the document
 * word for word; and no sentence of the document may be without a test.
 */
final class SentenceRunner {
    private static final List<Class<? extends SentenceTests>> CLASSES = List.of(
            ChangeTests.class, LogTests.class, MarkTests.class, TakenBackTests.class,
            InTheEndTests.class, CommandTests.class, ErrorTests.class, WritingTests.class,
            HearingTests.class, AskingTests.class, WouldBeTests.class, TextTests.class);
    // Headings under which nothing is asked of the answers of calls.
    private static final List<String> WITHOUT_TESTS =
            List.of("ReshapedTexts", "The public face", "Not promised");

    private final Checks checks;
    private final Map<String, List<String>> quotes = new HashMap<>();

    private SentenceRunner(Checks checks) {
        this.checks = checks;
    }

    /** Runs these tests alone. */
    public static void main(String[] args) {
        Checks checks = new Checks();
        run(checks, args.length > 0 ? args[0] : "../shared/DOC.md");
        System.exit(checks.exitCode());
    }

    static void run(Checks checks, String document) {
        SentenceRunner runner = new SentenceRunner(checks);
        for (Class<? extends SentenceTests> c : CLASSES) {
            Method[] methods = c.getDeclaredMethods();
            Arrays.sort(methods, Comparator.comparing(Method::getName));
            for (Method m : methods) {
                if (m.isAnnotationPresent(Sentence.class)) {
                    runner.runOne(c, m);
                }
            }
        }
        if (!Files.exists(Path.of(document))) {
            System.out.println(document + " is not there: no sentences are compared with it");
            return;
        }
        try {
            runner.compare(sectionsOf(Files.readAllLines(Path.of(document))));
        } catch (IOException e) {
            checks.holds("the document " + document + " can be read", false);
        }
    }

    private void runOne(Class<? extends SentenceTests> c, Method m) {
        Sentence sentence = m.getAnnotation(Sentence.class);
        quotes.computeIfAbsent(sentence.of(), k -> new ArrayList<>()).add(sentence.says());
        checks.holds(m + " is named by its heading \"" + sentence.of() + "\"",
                m.getName().startsWith(inOneWord(sentence.of())));
        String name = c.getSimpleName() + "." + m.getName() + " (" + sentence.of() + ": \""
                + sentence.says() + "\")";
        try {
            SentenceTests test = c.getDeclaredConstructor().newInstance();
            test.begin(checks, name);
            m.invoke(test);
            checks.holds(name + " asks something", test.asked() > 0);
        } catch (InvocationTargetException e) {
            checks.holds(name + " threw " + e.getCause(), false);
        } catch (ReflectiveOperationException e) {
            checks.holds(name + " can be run: " + e, false);
        }
    }

    /** "What is taken back" becomes "whatIsTakenBack". */
    private static String inOneWord(String heading) {
        StringBuilder word = new StringBuilder();
        for (String part : heading.split(" ")) {
            word.append(Character.toUpperCase(part.charAt(0))).append(part.substring(1));
        }
        word.setCharAt(0, Character.toLowerCase(word.charAt(0)));
        return word.toString();
    }

    /** The lines under each heading; the code of the face is left out. */
    private static Map<String, List<String>> sectionsOf(List<String> lines) {
        Map<String, List<String>> sections = new LinkedHashMap<>();
        List<String> section = new ArrayList<>();
        for (String line : lines) {
            if (line.startsWith("#")) {
                section = new ArrayList<>();
                sections.put(line.replaceAll("^#+ |:.*", ""), section);
            } else if (!line.isBlank()) {
                section.add(line);
            }
        }
        return sections;
    }

    private void compare(Map<String, List<String>> sections) {
        for (Map.Entry<String, List<String>> e : quotes.entrySet()) {
            String words = String.join("\n", sections.getOrDefault(e.getKey(), List.of()));
            for (String quote : e.getValue()) {
                checks.holds("\"" + quote + "\" stands under \"" + e.getKey() + "\"",
                        words.contains(quote));
            }
        }
        for (Map.Entry<String, List<String>> e : sections.entrySet()) {
            if (WITHOUT_TESTS.contains(e.getKey())) {
                continue;
            }
            for (String line : e.getValue()) {
                for (String sentence : sentencesOf(line)) {
                    checks.holds("a test asks for \"" + sentence + "\" under \"" + e.getKey()
                            + "\"", isQuoted(sentence, quotes.get(e.getKey())));
                }
            }
        }
    }

    /** None of a title, of one that LanguageTest asks for, and of what may be as it likes. */
    private static String[] sentencesOf(String line) {
        boolean isTitle = !line.contains(":") && !line.endsWith(".");
        if (isTitle || line.startsWith("Ahead of the calls")) {
            return new String[0];
        }
        return line.replace(" what later calls answer is free.", "").split("(?<=[.;]) ");
    }

    private static boolean isQuoted(String sentence, List<String> quotes) {
        for (String quote : quotes == null ? List.<String>of() : quotes) {
            if (quote.contains(sentence) || sentence.contains(quote)) {
                return true;
            }
        }
        return false;
    }
}
