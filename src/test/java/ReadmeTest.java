import java.io.IOException;
import java.lang.reflect.Method;
import java.lang.reflect.Modifier;
import java.nio.file.Files;
import java.nio.file.Path;
import java.util.ArrayList;
import java.util.Arrays;
import java.util.List;
import java.util.regex.Matcher;
import java.util.regex.Pattern;

/** README.md tells how to use the class: its example is run as it stands there, its tables are held to the class. */
public final class ReadmeTest {
    private static final Pattern STEP = Pattern.compile("line\\.(\\w+)\\(([^)]*)\\); +// (-?\\d+).*");
    private static final Pattern ROW = Pattern.compile("(?m)^\\| `(\\w+)\\(([^)]*)\\)` \\|");

    private final String page;

    private ReadmeTest(String page) {
        this.page = page;
    }

    public static void main(String[] args) throws IOException, ReflectiveOperationException {
        ReadmeTest test = new ReadmeTest(Files.readString(Path.of("README.md")));
        test.example();
        test.calls();
        test.refusals();
        Check.holds("README.md tells how to run the tests", test.page.contains("    .ci/run\n"));
        test.namesEachTest();
        Check.end("ReadmeTest");
    }

    private static long answer(StandingLine line, String name, String given) throws ReflectiveOperationException {
        Object[] arguments = given.isEmpty() ? new Object[0]
            : Arrays.stream(given.split(", ")).map(Integer::valueOf).toArray();
        Class<?>[] types = new Class<?>[arguments.length];
        Arrays.fill(types, int.class);
        Method method = StandingLine.class.getMethod(name, types);
        return ((Number) method.invoke(line, arguments)).longValue();
    }

    private void example() throws ReflectiveOperationException {
        int from = page.indexOf("```java\n");
        int end = page.indexOf("```\n", from + 1);
        Check.holds("README.md has an example", from >= 0 && end > from);
        StandingLine line = new StandingLine();
        int steps = 0;
        for (String row : page.substring(from, end).split("\n")) {
            Matcher step = STEP.matcher(row);
            Matcher text = Pattern.compile("for \\(char sign : \"(.*)\"\\.toCharArray\\(\\)\\) \\{").matcher(row);
            if (step.matches()) {
                steps++;
                Check.due(row, answer(line, step.group(1), step.group(2)), Long.parseLong(step.group(3)));
            } else if (text.matches()) {
                Scene.text(line, text.group(1));
            }
        }
        Check.due("answers in the example of README.md", steps, 18);
    }

    private void calls() {
        List<String> told = new ArrayList<>();
        Matcher row = ROW.matcher(page);
        while (row.find()) {
            told.add(row.group(1) + " " + (row.group(2).isEmpty() ? 0 : row.group(2).split(",").length));
        }
        List<String> are = new ArrayList<>();
        for (Method method : StandingLine.class.getDeclaredMethods()) {
            if (Modifier.isPublic(method.getModifiers())) {
                are.add(method.getName() + " " + method.getParameterCount());
            }
        }
        told.sort(null);
        are.sort(null);
        Check.holds("README.md tells each call once: " + told, told.equals(are));
    }

    private void refusals() {
        String[] names = {"UNKNOWN", "OUTSIDE", "STATE", "FULL", "NO", "NONE"};
        int[] are = {StandingLine.UNKNOWN, StandingLine.OUTSIDE, StandingLine.STATE, StandingLine.FULL,
            StandingLine.NO, StandingLine.NONE};
        for (int i = 0; i < names.length; i++) {
            Check.holds("README.md tells " + names[i], page.contains("`" + names[i] + "` (" + are[i] + ")"));
        }
        long goat = new StandingLine().goat(-1, 0, 0, 0, 0);
        Check.holds("README.md tells how goat is refused", page.contains("`GONE + OUTSIDE` (" + goat + ")"));
    }

    private void namesEachTest() throws IOException {
        try (var files = Files.list(Path.of("src/test/java"))) {
            for (Path file : (Iterable<Path>) files::iterator) {
                String name = file.getFileName().toString().replace(".java", "");
                Check.holds("README.md names " + name, page.contains(name));
            }
        }
    }
}
