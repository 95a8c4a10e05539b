import java.io.IOException;
import java.nio.file.Files;
import java.nio.file.Path;
import java.util.ArrayList;
import java.util.Arrays;
import java.util.List;
import java.util.regex.Matcher;
import java.util.regex.Pattern;

/** The calls that README.md shows: each has to answer what stands behind it. */
final class ReadmeTest {
    private static final Pattern CALL =
            Pattern.compile("^texts\\.(\\w+)\\((.*)\\);\\s+// (-?\\d+)\\b.*$");

    private final Checks checks;
    private final ReshapedTexts texts = new ReshapedTexts();
    private int calls;

    private ReadmeTest(Checks checks) {
        this.checks = checks;
    }

    static void run(Checks checks, String file) {
        ReadmeTest test = new ReadmeTest(checks);
        try {
            for (String line : Files.readAllLines(Path.of(file))) {
                if (line.startsWith("texts.")) {
                    test.callOf(line);
                }
            }
        } catch (IOException e) {
            checks.holds(file + " can be read", false);
        }
        checks.holds(file + " shows calls", test.calls > 0);
    }

    private void callOf(String line) {
        calls++;
        Matcher m = CALL.matcher(line);
        if (!m.matches()) {
            checks.holds("README.md tells what this answers: " + line, false);
            return;
        }
        Object[] arguments = argumentsOf(m.group(2));
        Class<?>[] types = new Class<?>[arguments.length];
        Arrays.fill(types, int.class);
        try {
            Object got = ReshapedTexts.class.getMethod(m.group(1), types).invoke(texts, arguments);
            checks.due("README.md: " + line, (Integer) got, Integer.parseInt(m.group(3)));
        } catch (ReflectiveOperationException e) {
            checks.holds("README.md: " + line + " can be called: " + e, false);
        }
    }

    /** Numbers and single characters. */
    private static Object[] argumentsOf(String told) {
        List<Object> arguments = new ArrayList<>();
        Matcher m = Pattern.compile("'(.)'|-?\\d+").matcher(told);
        while (m.find()) {
            String sign = m.group(1);
            arguments.add(sign == null ? Integer.parseInt(m.group()) : (int) sign.charAt(0));
        }
        return arguments.toArray();
    }
}
