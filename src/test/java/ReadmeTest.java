import java.io.IOException;
import java.nio.file.Files;
import java.nio.file.Path;
import java.util.List;
import java.util.Set;
import java.util.TreeSet;
import java.util.regex.Matcher;
import java.util.regex.Pattern;

/** The calls in README.md have the answers told with them; it is run from the project's folder. */
public final class ReadmeTest {
    private static final Checks CHECKS = new Checks("ReadmeTest");
    private static final String NEW_OBJECT = "TinyFloats x = new TinyFloats();";
    private static final Pattern ROW =
            Pattern.compile("x\\.((\\w+)\\([-0-9, ]*\\)); +// (-?\\d+)\\b.*");

    public static void main(String[] args) throws IOException {
        Set<String> shown = callsHold(Files.readAllLines(Path.of("README.md")));
        for (String name : Calls.ALL) {
            CHECKS.dueTrue("README.md shows " + name, shown.contains(name));
        }
        CHECKS.finish();
    }

    /** The names of the methods that were called. */
    private static Set<String> callsHold(List<String> lines) {
        Set<String> shown = new TreeSet<>();
        boolean inJava = false;
        TinyFloats x = new TinyFloats();
        for (String line : lines) {
            Matcher row = ROW.matcher(line);
            if (line.startsWith("```")) {
                inJava = line.equals("```java");
            } else if (inJava && line.equals(NEW_OBJECT)) {
                x = new TinyFloats();
            } else if (inJava && row.matches()) {
                CHECKS.due(line, Calls.ask(x, row.group(1)), Integer.parseInt(row.group(3)));
                shown.add(row.group(2));
            } else if (inJava) {
                CHECKS.dueTrue(line + " is a call with its answer", false);
            }
        }
        return shown;
    }
}
