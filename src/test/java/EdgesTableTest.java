import java.io.IOException;
import java.lang.reflect.Method;
import java.nio.file.Files;
import java.nio.file.Path;
import java.util.HashSet;
import java.util.Set;
import java.util.regex.Matcher;
import java.util.regex.Pattern;

/** The tests that src/test/EDGES.md names are there, and each promise stands in it. */
public final class EdgesTableTest {
    private static final Pattern TEST = Pattern.compile("`(\\w+Test)\\.(\\w+)`");

    public static void main(String[] args) throws IOException {
        Set<String> promises = new HashSet<>();
        for (String line : Files.readAllLines(Path.of("src/test/EDGES.md"))) {
            if (!line.startsWith("| ") || line.contains("tests |")) {
                continue;
            }
            promises.add(line.split("\\|")[1].trim());
            Matcher named = TEST.matcher(line);
            int count = 0;
            for (; named.find(); count++) {
                Check.due(named.group() + " is there", isThere(named.group(1), named.group(2)), true);
            }
            Check.due("'" + line + "' names a test", count > 0, true);
        }
        for (int promise = 1; promise <= 23; promise++) {
            Check.due("promise " + promise + " has a row", promises.contains(Integer.toString(promise)), true);
        }
        Check.done();
    }

    private static boolean isThere(String test, String name) {
        try {
            for (Method method : Class.forName(test).getDeclaredMethods()) {
                if (method.getName().equals(name)) {
                    return true;
                }
            }
        } catch (ClassNotFoundException e) {
            return false;
        }
        return false;
    }
}
