import java.io.File;
import java.lang.reflect.Method;
import java.nio.file.Files;
import java.nio.file.Path;
import java.util.List;
import java.util.regex.Matcher;
import java.util.regex.Pattern;

/** What README.md tells: its calls answer what stands behind them, and each call and each test has its row. */
final class ReadmeTest {
    private static final Pattern FED = Pattern.compile("Due\\.feedText\\(x, \"([^\"]*)\"\\);");
    private static final Pattern CALL = Pattern.compile("x\\.(\\w+)\\(([^)]*)\\); *// (-?\\w+)[:;\\n].*", Pattern.DOTALL);

    public static void main(String[] args) throws Exception {
        Due t = new Due();
        List<String> lines = Files.readAllLines(Path.of("README.md"));
        t.due("calls in README.md", true, play(t, lines) >= 10);
        rows(t, lines);
        t.close();
    }

    /** Calls what stands in the parts marked as Java, in turn: how many calls. */
    private static int play(Due t, List<String> lines) throws Exception {
        int calls = 0;
        boolean java = false;
        for (String line : lines) {
            if (line.startsWith("```")) {
                java = line.equals("```java");
            } else if (java) {
                calls += call(t, line);
            }
        }
        return calls;
    }

    private static int call(Due t, String line) throws Exception {
        Matcher fed = FED.matcher(line);
        Matcher call = CALL.matcher(line + "\n");
        if (line.equals("LieCandles x = new LieCandles();")) {
            t.anew();
        } else if (fed.matches()) {
            Due.feedText(t.x, fed.group(1));
        } else if (call.matches()) {
            t.due("README.md: " + line, call.group(3), String.valueOf(answer(t.x, call.group(1), call.group(2))));
            return 1;
        } else {
            t.due("README.md: " + line + " is a call with its answer", true, false);
        }
        return 0;
    }

    private static Object answer(LieCandles x, String name, String told) throws Exception {
        String[] numbers = told.isEmpty() ? new String[0] : told.split(", ");
        Class<?>[] kinds = new Class<?>[numbers.length];
        Object[] values = new Object[numbers.length];
        for (int k = 0; k < numbers.length; k++) {
            kinds[k] = int.class;
            values[k] = Integer.decode(numbers[k]);
        }
        return LieCandles.class.getMethod(name, kinds).invoke(x, values);
    }

    private static void rows(Due t, List<String> lines) {
        StringBuilder b = new StringBuilder();
        for (String line : lines) {
            if (line.startsWith("|")) {
                b.append(line, 0, line.indexOf('|', 1));
            }
        }
        for (Method m : LieCandles.class.getDeclaredMethods()) {
            boolean open = java.lang.reflect.Modifier.isPublic(m.getModifiers());
            t.due("README.md has a row with " + m.getName(), open, b.indexOf("`" + m.getName() + "`") >= 0);
        }
        int tests = 0;
        for (String file : new File("src/test/java").list()) {
            if (file.endsWith("Test.java")) {
                tests++;
                String name = file.substring(0, file.length() - 5);
                t.due("README.md has a row for " + name, true, b.indexOf("| " + name + " ") >= 0);
            }
        }
        int told = b.toString().split("Test ", -1).length - 1;
        t.due("rows for tests in README.md", tests, told);
    }
}
