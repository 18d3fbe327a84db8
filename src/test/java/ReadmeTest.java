import java.io.IOException;
import java.lang.reflect.Method;
import java.lang.reflect.Modifier;
import java.nio.file.Files;
import java.nio.file.Path;
import java.util.ArrayList;
import java.util.List;
import java.util.regex.Pattern;
import java.util.stream.Collectors;
import java.util.stream.Stream;

/** What README.md says: its examples stand here line by line and are run, and it names all calls and all tests. */
public final class ReadmeTest {
    private static final Path README = Path.of("README.md");
    private static final Path TESTS = Path.of("src/test/java");

    public static void main(String[] args) throws IOException {
        writeAndRead();
        refinement();
        symbolsAndText();
        examplesAreTheseHere();
        callsAreNamed();
        testsAreNamed();
        Check.done();
    }

    private static void writeAndRead() {
        InkCoder ink = new InkCoder();
        ink.size(0, 5, 4);                      // board 0 has 5 times 4 points, all 0
        ink.flip(0, 2, 1);                      // the point in column 2 and row 1 is 1
        ink.begin(true);                        // write
        ink.region(0, 1, true);                 // the board by template 1, typical
        ink.number(0, -20);                     // a number of kind 0
        int bytes = ink.end();                  // how many bytes there are; code(i) is byte i

        ink.size(1, 5, 4);
        ink.begin(false);                       // read the same bytes
        ink.region(1, 1, true);                 // board 1 is now what board 0 is
        int v = ink.number(0, 0);               // -20; the 0 is for nothing when it is reading
        ink.end();
        Check.due("the bytes that were written", bytes, ink.length());
        Check.due("the number that was read", v, -20);
        onePoint("board 1", ink, 1, 2, 1);

        InkCoder other = new InkCoder();
        for (int i = 0; i < ink.length(); i++) {
            other.put(ink.code(i));
        }
        other.size(2, 5, 4);
        other.begin(false);
        other.region(2, 1, true);
        Check.due("the bytes that were put", other.length(), bytes);
        onePoint("board 2 of the other object", other, 2, 2, 1);
    }

    private static void refinement() {
        InkCoder pair = new InkCoder();
        pair.size(0, 8, 8);
        pair.flip(0, 3, 3);                     // board 0: what the reader has
        pair.size(1, 8, 8);
        pair.flip(1, 4, 3);                     // board 1: the same, one column further right
        pair.begin(true);
        int changed = pair.refine(1, 0, 1, 0);  // shifted by 1, 0 board 0 is just board 1: 0 points are changed
        pair.end();
        pair.size(1, 8, 8);
        pair.begin(false);
        pair.refine(1, 0, 1, 0);
        pair.end();
        Check.due("the points that are changed", changed, 0);
        onePoint("board 1 by board 0", pair, 1, 4, 3);
    }

    private static void symbolsAndText() {
        InkCoder page = new InkCoder();
        page.size(0, 3, 5);
        page.flip(0, 1, 2);
        page.learn(0);                          // symbol 0 is what board 0 is now
        page.mark(0, 4, 6);                     // symbol 0 at S = 4, T = 6
        page.mark(0, 9, 6);                     // and further right in the same row
        page.size(1, 24, 12);                   // board 1 is the page
        page.begin(true);
        page.dictionary();                      // 1 symbol
        page.text(1, 0, false, 0);              // 2 marks: their lower left points come to (S, T), drawn by or
        page.end();

        page.forget();
        page.size(1, 24, 12);
        page.begin(false);
        int symbols = page.dictionary();        // 1: the symbol is there again
        int marks = page.text(1, 0, false, 0);  // 2: the marks are there again, and stand on board 1
        if (marks == InkCoder.BROKEN) {
            System.out.println("these bytes are no text; the coder is idle");
        }
        Check.due("the symbols that were read", symbols, 1);
        Check.due("the marks that were read", marks, 2);
        Check.due("the points of the page", page.board(1, 0), 2);
        Check.due("the first symbol's point", page.point(1, 5, 4), true);
        Check.due("the second symbol's point", page.point(1, 10, 4), true);
    }

    private static void onePoint(String what, InkCoder ink, int board, int x, int y) {
        Check.due(what + ": points that are 1", ink.board(board, 0), 1);
        Check.due(what + ": its point", ink.point(board, x, y), true);
    }

    private static void examplesAreTheseHere() throws IOException {
        String here = trimmed(Files.readAllLines(TESTS.resolve("ReadmeTest.java")));
        List<List<String>> examples = examples();
        Check.due("how many examples there are", examples.size(), 4);
        for (List<String> example : examples) {
            String text = trimmed(example);
            Check.due("the example is run here:\n" + text, here.contains(text), true);
        }
    }

    private static List<List<String>> examples() throws IOException {
        List<List<String>> all = new ArrayList<>();
        boolean inside = false;
        for (String line : Files.readAllLines(README)) {
            if (line.equals("```java")) {
                all.add(new ArrayList<>());
                inside = true;
            } else if (line.equals("```")) {
                inside = false;
            } else if (inside) {
                all.get(all.size() - 1).add(line);
            }
        }
        return all;
    }

    private static String trimmed(List<String> lines) {
        return lines.stream().map(String::trim).collect(Collectors.joining("\n", "\n", "\n"));
    }

    /** In the table of calls, with as many arguments as each has. */
    private static void callsAreNamed() throws IOException {
        String readme = Files.readString(README);
        for (Method method : InkCoder.class.getDeclaredMethods()) {
            if (Modifier.isPublic(method.getModifiers())) {
                int count = method.getParameterCount();
                String arguments = count == 0 ? "" : "\\w+(, \\w+){" + (count - 1) + "}";
                String cell = "\n\\| [^|]*`" + method.getName() + "\\(" + arguments + "\\)`";
                Check.due("README.md names " + method, Pattern.compile(cell).matcher(readme).find(), true);
            }
        }
    }

    private static void testsAreNamed() throws IOException {
        String readme = Files.readString(README);
        try (Stream<Path> files = Files.list(TESTS)) {
            for (Path file : files.sorted().toList()) {
                String name = file.getFileName().toString().replace(".java", "");
                Check.due("README.md names " + name, readme.contains("`" + name + "`"), true);
            }
        }
    }
}
