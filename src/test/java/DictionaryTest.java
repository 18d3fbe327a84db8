/** Promise 22: dictionary. */
public final class DictionaryTest {
    private static final int COUNT = 3;
    private static final int HEIGHT = 4;
    private static final int WIDTH = 5;

    public static void main(String[] args) {
        wrongState();
        none();
        writingKeepsAll();
        bytesAreDue();
        thereAndBack();
        eight();
        widest();
        heightsAndWidthsAreWritten();
        secondDictionary();
        symbolsShareTemplateTwo();
        Check.done();
    }

    private static void wrongState() {
        InkCoder ink = new InkCoder();
        ink.learn(0);
        Check.wrongState("dictionary when idle", ink::dictionary);
        Check.due("nothing has changed", ink.symbol(0, -1, 0), 1);
    }

    private static void none() {
        InkCoder ink = new InkCoder();
        ink.begin(true);
        Check.due("no symbols", ink.dictionary(), 0);
        ink.number(0, 11);
        ink.end();
        ink.learn(0);
        ink.mark(0, 0, 0);
        ink.begin(false);
        Check.due("no symbols, read", ink.dictionary(), 0);
        Check.outOfBounds("symbol", () -> ink.symbol(0, -1, 0));
        Check.outOfBounds("marked", () -> ink.marked(0, 0));
        Check.due("what is behind", ink.number(0, 0), 11);
    }

    private static void learnAll(InkCoder ink, int[][] sides) {
        for (int[] side : sides) {
            ink.size(0, side[0], side[1]);
            ink.flip(0, side[0] - 1, side[1] - 1);
            ink.flip(0, side[0] / 2, 0);
            ink.learn(0);
        }
    }

    private static void checkAll(InkCoder ink, int[][] sides) {
        for (int k = 0; k < sides.length; k++) {
            int w = sides[k][0];
            int h = sides[k][1];
            Check.due("width of " + k, ink.symbol(k, -1, 0), w);
            Check.due("height of " + k, ink.symbol(k, -2, 0), h);
            boolean single = w / 2 == w - 1 && h == 1;
            Check.due("a point of " + k, ink.symbol(k, w - 1, h - 1), single ? 0 : 1);
            Check.due("a point of " + k, ink.symbol(k, w / 2, 0), single ? 0 : 1);
        }
        Check.outOfBounds("one more", () -> ink.symbol(sides.length, -1, 0));
    }

    private static void writingKeepsAll() {
        InkCoder ink = new InkCoder();
        int[][] sides = {{5, 4}, {3, 4}};
        learnAll(ink, sides);
        ink.mark(1, 2, 3);
        ink.begin(true);
        Check.due("dictionary", ink.dictionary(), 2);
        checkAll(ink, sides);
        Check.due("marks stay", ink.marked(0, 1), 2);
        Check.due("state", ink.state(), 1);
    }

    /** The pictures are of 0s, but for the first two points in the first row. */
    private static void writePicture(PlainCoder plain, int w, int h) {
        int[][] p = new int[h][w];
        p[0][0] = 1;
        if (w > 1) {
            p[0][1] = 1;
        }
        for (int y = 0; y < h; y++) {
            for (int x = 0; x < w; x++) {
                plain.write(PlainModel.around(p, 2, x, y), p[y][x]);
            }
        }
    }

    private static void bytesAreDue() {
        int[][] sides = {{3, 2}, {2, 2}, {4, 1}, {4, 3}, {5, 3}, {1, 2}};
        InkCoder ink = new InkCoder();
        for (int[] side : sides) {
            ink.size(2, side[0], side[1]);
            ink.flip(2, 0, 0);
            if (side[0] > 1) {
                ink.flip(2, 1, 0);
            }
            ink.learn(2);
        }
        ink.begin(true);
        ink.dictionary();
        ink.end();
        PlainCoder plain = new PlainCoder();
        plain.beginWriting();
        plain.writeNumber(COUNT, 6L);
        plain.writeNumber(HEIGHT, 2L);
        plain.writeNumber(WIDTH, 3L);
        writePicture(plain, 3, 2);
        plain.writeNumber(WIDTH, -1L);
        writePicture(plain, 2, 2);
        plain.writeNumber(WIDTH, null);
        plain.writeNumber(HEIGHT, -1L);
        plain.writeNumber(WIDTH, 4L);
        writePicture(plain, 4, 1);
        plain.writeNumber(WIDTH, null);
        plain.writeNumber(HEIGHT, 2L);
        plain.writeNumber(WIDTH, 4L);
        writePicture(plain, 4, 3);
        plain.writeNumber(WIDTH, 1L);
        writePicture(plain, 5, 3);
        plain.writeNumber(WIDTH, null);
        plain.writeNumber(HEIGHT, -1L);
        plain.writeNumber(WIDTH, 1L);
        writePicture(plain, 1, 2);
        plain.writeNumber(WIDTH, null);
        Check.sameBytes("dictionary", ink, plain);
    }

    private static void goAndComeBack(int[][] sides) {
        InkCoder ink = new InkCoder();
        learnAll(ink, sides);
        ink.begin(true);
        Check.due("written", ink.dictionary(), sides.length);
        ink.number(1, 99);
        ink.end();
        ink.forget();
        ink.size(1, 7, 7);
        ink.learn(1);
        ink.mark(0, 4, 4);
        ink.begin(false);
        Check.due("read", ink.dictionary(), sides.length);
        Check.due("state", ink.state(), 2);
        checkAll(ink, sides);
        Check.outOfBounds("no marks", () -> ink.marked(0, 0));
        Check.due("what is behind", ink.number(1, 0), 99);
    }

    private static void thereAndBack() {
        goAndComeBack(new int[][] {{3, 2}, {2, 2}, {4, 1}, {2, 2}, {5, 2}});
    }

    private static void eight() {
        goAndComeBack(new int[][] {{3, 2}, {2, 2}, {4, 6}, {2, 6}, {5, 6}, {5, 6}, {6, 6}, {7, 1}});
    }

    private static void widest() {
        goAndComeBack(new int[][] {{24, 24}, {1, 24}, {24, 1}, {1, 1}});
    }

    private static void learnMade(InkCoder ink, int w, int h) {
        ink.size(0, w, h);
        for (int y = 0; y < h; y++) {
            for (int x = 0; x < w; x++) {
                if (Made.point(w, h, x, y) == 1) {
                    ink.flip(0, x, y);
                }
            }
        }
        ink.learn(0);
    }

    /** None, one, eight; sides of 1 and 24; heights and widths that become less, that stay, that begin anew. */
    private static void heightsAndWidthsAreWritten() {
        String[][] all = {
            {"", "C0"},
            {"1x1", "C1 H1 W1 P W-"},
            {"24x1", "C1 H1 W24 P W-"},
            {"1x24", "C1 H24 W1 P W-"},
            {"24x24 1x24 24x1 1x1", "C4 H24 W24 P W-23 P W- H-23 W24 P W-23 P W-"},
            {"1x1 24x1 1x24", "C3 H1 W1 P W23 P W- H23 W1 P W-"},
            {"2x3 2x3 2x3 2x3 2x3 2x3 2x3 2x3", "C8 H3 W2 P W0 P W0 P W0 P W0 P W0 P W0 P W0 P W-"},
            {"3x1 3x2 3x1 3x2 3x1 3x2 3x1 3x2",
                "C8 H1 W3 P W- H1 W3 P W- H-1 W3 P W- H1 W3 P W- H-1 W3 P W- H1 W3 P W- H-1 W3 P W- H1 W3 P W-"}
        };
        for (String[] row : all) {
            InkCoder ink = new InkCoder();
            String[] symbols = row[0].isEmpty() ? new String[0] : row[0].split(" ");
            for (String sides : symbols) {
                String[] side = sides.split("x");
                learnMade(ink, Integer.parseInt(side[0]), Integer.parseInt(side[1]));
            }
            ink.begin(true);
            Check.due("written " + row[0], ink.dictionary(), symbols.length);
            ink.end();
            Check.due("bytes of " + row[0], Sight.bytes(ink), Made.bytes(row[1]));
            Check.due("symbols stay", Sight.symbols(ink), symbols.length);
        }
    }

    /** h is 0 first each time. */
    private static void secondDictionary() {
        InkCoder ink = new InkCoder();
        learnMade(ink, 2, 5);
        ink.begin(true);
        ink.dictionary();
        ink.dictionary();
        ink.end();
        Check.due("two dictionaries", Sight.bytes(ink), Made.bytes("C1 H5 W2 P W- C1 H5 W2 P W-"));
        ink.begin(false);
        ink.dictionary();
        Check.due("two dictionaries, read", ink.dictionary(), 1);
        Check.due("the second one's height", ink.symbol(0, -2, 0), 5);
    }

    private static PlainCoder numbered(long count) {
        PlainCoder plain = new PlainCoder();
        plain.beginWriting();
        plain.writeNumber(COUNT, count);
        return plain;
    }

    private static void symbolsShareTemplateTwo() {
        InkCoder ink = new InkCoder();
        PlainCoder plain = numbered(1);
        plain.writeNumber(HEIGHT, 3L);
        plain.writeNumber(WIDTH, 5L);
        writePicture(plain, 5, 3);
        plain.writeNumber(WIDTH, null);
        writePicture(plain, 5, 3);
        ink.size(0, 5, 3);
        ink.flip(0, 0, 0);
        ink.flip(0, 1, 0);
        ink.learn(0);
        ink.begin(true);
        ink.dictionary();
        ink.region(0, 2, false);
        ink.end();
        Check.sameBytes("dictionary and region", ink, plain);
    }
}
