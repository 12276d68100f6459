import java.nio.file.Files;
import java.nio.file.Path;
import java.util.ArrayList;
import java.util.List;
import java.util.regex.Matcher;
import java.util.regex.Pattern;

/** The example of README.md: each of its lines "x.call(numbers); // answer: .." is called, and answers so. */
public final class ReadmeTests {
    private static final Due DUE = new Due("ReadmeTests");
    private static final Pattern LINE = Pattern.compile("x\\.(\\w+)\\((.*)\\); +// (-?\\d+): .*");
    private static final Pattern TOWER = Pattern.compile("String tower = \"([^\"]*)\";.*");

    private ReadmeTests() {
    }

    public static void main(String[] args) throws Exception {
        String readme = Files.readString(Path.of(System.getProperty("project", "."), "README.md"));
        int begin = readme.indexOf("```java\n");
        int end = readme.indexOf("```", begin + 1);
        DUE.holds("README.md has an example", begin >= 0 && end > begin);
        if (begin >= 0 && end > begin) {
            example(readme.substring(begin, end).split("\n"));
        }
        everyCall(readme);
        DUE.end();
    }

    private static void example(String[] lines) throws Exception {
        BellBalance x = new BellBalance();
        String tower = "";
        int answers = 0;
        for (String line : lines) {
            Matcher named = TOWER.matcher(line);
            Matcher called = LINE.matcher(line);
            if (named.matches()) {
                tower = named.group(1);
            } else if (line.startsWith("for ")) {
                Scenes.write(x, 0, tower);
            } else if (called.matches()) {
                answers++;
                DUE.is(line, answer(x, called.group(1), called.group(2).replace("tower.length()", "" + tower.length())), Long.parseLong(called.group(3)));
            } else {
                DUE.holds("read: " + line, line.startsWith("```") || line.equals("BellBalance x = new BellBalance();"));
            }
        }
        DUE.holds("the example has answers", answers >= 10);
    }

    private static long answer(BellBalance x, String name, String numbers) throws Exception {
        List<Class<?>> types = new ArrayList<>();
        List<Object> given = new ArrayList<>();
        for (String number : numbers.isEmpty() ? new String[0] : numbers.split(", ")) {
            types.add(int.class);
            given.add(Integer.parseInt(number));
        }
        return ((Number) BellBalance.class.getMethod(name, types.toArray(new Class<?>[0])).invoke(x, given.toArray())).longValue();
    }

    /* The table of calls names the whole face. */
    private static void everyCall(String readme) {
        for (java.lang.reflect.Method m : BellBalance.class.getDeclaredMethods()) {
            if (java.lang.reflect.Modifier.isPublic(m.getModifiers())) {
                DUE.holds("README.md names " + m.getName(), Pattern.compile("(?m)^\\| `[^`]*\\b" + m.getName() + "\\b[^`]*` \\|").matcher(readme).find());
            }
        }
    }
}
