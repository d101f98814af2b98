import java.io.IOException;
import java.lang.reflect.Method;
import java.nio.file.Files;
import java.nio.file.Path;
import java.util.List;
import java.util.regex.Matcher;
import java.util.regex.Pattern;

/** README.md: its example answers as it says, and its table has every call of the class. */
public final class ReadmeTest {
    private static final Pattern CALL_WITH_ANSWER = Pattern.compile("tower\\.(\\w+\\([^)]*\\)); +// (-?\\d+)\\b.*");

    public static void main(String[] args) throws IOException {
        List<String> lines = Files.readAllLines(Path.of("README.md"));
        exampleAnswers(lines);
        tableHasEveryCall(lines);
        Due.end();
    }

    private static void exampleAnswers(List<String> lines) {
        Due.sentence("README.md, the example");
        FieldTower tower = new FieldTower();
        int q = 64;
        for (String line : lines) {
            if (line.startsWith("tower.")) {
                Matcher matcher = CALL_WITH_ANSWER.matcher(line);
                boolean told = matcher.matches();
                Due.same("a call with its answer: " + line, told, true);
                if (told) {
                    Due.on(tower, q, matcher.group(1), Integer.parseInt(matcher.group(2)));
                    q = line.startsWith("tower.use(81)") ? 81 : q;
                }
            }
        }
    }

    private static void tableHasEveryCall(List<String> lines) {
        Due.sentence("README.md, the table");
        for (Method method : FieldTower.class.getMethods()) {
            if (method.getDeclaringClass() == FieldTower.class) {
                String row = "| `" + method.getName() + "(";
                long rows = lines.stream().filter(line -> line.startsWith(row)).count();
                Due.same("rows of " + method.getName(), rows, 1L);
            }
        }
    }
}
