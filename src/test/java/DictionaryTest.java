/** Promise 22: dictionary. */
public final class DictionaryTest {
    private static final int COUNT = 3;
    private static final int HEIGHT = 4;
    private static final int WIDTH = 5;

    public static void main(String[] args) {
        wrongState();
        none();
        writingKeepsAll();
        bytesAreDue();
        thereAndBack();
        eight();
        widest();
        sameHeightTwice();
        brokenCounts();
        brokenHeights();
        brokenWidths();
        symbolsShareTemplateTwo();
        Check.done();
    }

    private static void wrongState() {
        InkCoder ink = new InkCoder();
        ink.learn(0);
        Check.wrongState("dictionary when idle", ink::dictionary);
        Check.due("nothing has changed", ink.symbol(0, -1, 0), 1);
    }

    private static void none() {
        InkCoder ink = new InkCoder();
        ink.begin(true);
        Check.due("no symbols", ink.dictionary(), 0);
        ink.number(0, 11);
        ink.end();
        ink.learn(0);
        ink.mark(0, 0, 0);
        ink.begin(false);
        Check.due("no symbols, read", ink.dictionary(), 0);
        Check.outOfBounds("symbol", () -> ink.symbol(0, -1, 0));
        Check.outOfBounds("marked", () -> ink.marked(0, 0));
        Check.due("what is behind", ink.number(0, 0), 11);
    }

    private static void learnAll(InkCoder ink, int[][] sides) {
        for (int[] side : sides) {
            ink.size(0, side[0], side[1]);
            ink.flip(0, side[0] - 1, side[1] - 1);
            ink.flip(0, side[0] / 2, 0);
            ink.learn(0);
        }
    }

    private static void checkAll(InkCoder ink, int[][] sides) {
        for (int k = 0; k < sides.length; k++) {
            int w = sides[k][0];
            int h = sides[k][1];
            Check.due("width of " + k, ink.symbol(k, -1, 0), w);
            Check.due("height of " + k, ink.symbol(k, -2, 0), h);
            boolean single = w / 2 == w - 1 && h == 1;
            Check.due("a point of " + k, ink.symbol(k, w - 1, h - 1), single ? 0 : 1);
            Check.due("a point of " + k, ink.symbol(k, w / 2, 0), single ? 0 : 1);
        }
        Check.outOfBounds("one more", () -> ink.symbol(sides.length, -1, 0));
    }

    private static void writingKeepsAll() {
        InkCoder ink = new InkCoder();
        int[][] sides = {{5, 4}, {3, 4}};
        learnAll(ink, sides);
        ink.mark(1, 2, 3);
        ink.begin(true);
        Check.due("dictionary", ink.dictionary(), 2);
        checkAll(ink, sides);
        Check.due("marks stay", ink.marked(0, 1), 2);
        Check.due("state", ink.state(), 1);
    }

    /** The pictures are of 0s, but for the first two points in the first row. */
    private static void writePicture(PlainCoder plain, int w, int h) {
        int[][] p = new int[h][w];
        p[0][0] = 1;
        if (w > 1) {
            p[0][1] = 1;
        }
        for (int y = 0; y < h; y++) {
            for (int x = 0; x < w; x++) {
                plain.write(PlainModel.around(p, 2, x, y), p[y][x]);
            }
        }
    }

    private static void bytesAreDue() {
        int[][] sides = {{3, 2}, {2, 2}, {4, 1}, {4, 3}, {5, 3}, {1, 2}};
        InkCoder ink = new InkCoder();
        for (int[] side : sides) {
            ink.size(2, side[0], side[1]);
            ink.flip(2, 0, 0);
            if (side[0] > 1) {
                ink.flip(2, 1, 0);
            }
            ink.learn(2);
        }
        ink.begin(true);
        ink.dictionary();
        ink.end();
        PlainCoder plain = new PlainCoder();
        plain.beginWriting();
        plain.writeNumber(COUNT, 6L);
        plain.writeNumber(HEIGHT, 2L);
        plain.writeNumber(WIDTH, 3L);
        writePicture(plain, 3, 2);
        plain.writeNumber(WIDTH, -1L);
        writePicture(plain, 2, 2);
        plain.writeNumber(WIDTH, null);
        plain.writeNumber(HEIGHT, -1L);
        plain.writeNumber(WIDTH, 4L);
        writePicture(plain, 4, 1);
        plain.writeNumber(WIDTH, null);
        plain.writeNumber(HEIGHT, 2L);
        plain.writeNumber(WIDTH, 4L);
        writePicture(plain, 4, 3);
        plain.writeNumber(WIDTH, 1L);
        writePicture(plain, 5, 3);
        plain.writeNumber(WIDTH, null);
        plain.writeNumber(HEIGHT, -1L);
        plain.writeNumber(WIDTH, 1L);
        writePicture(plain, 1, 2);
        plain.writeNumber(WIDTH, null);
        Check.sameBytes("dictionary", ink, plain);
    }

    private static void goAndComeBack(int[][] sides) {
        InkCoder ink = new InkCoder();
        learnAll(ink, sides);
        ink.begin(true);
        Check.due("written", ink.dictionary(), sides.length);
        ink.number(1, 99);
        ink.end();
        ink.forget();
        ink.size(1, 7, 7);
        ink.learn(1);
        ink.mark(0, 4, 4);
        ink.begin(false);
        Check.due("read", ink.dictionary(), sides.length);
        Check.due("state", ink.state(), 2);
        checkAll(ink, sides);
        Check.outOfBounds("no marks", () -> ink.marked(0, 0));
        Check.due("what is behind", ink.number(1, 0), 99);
    }

    private static void thereAndBack() {
        goAndComeBack(new int[][] {{3, 2}, {2, 2}, {4, 1}, {2, 2}, {5, 2}});
    }

    private static void eight() {
        goAndComeBack(new int[][] {{3, 2}, {2, 2}, {4, 6}, {2, 6}, {5, 6}, {5, 6}, {6, 6}, {7, 1}});
    }

    private static void widest() {
        goAndComeBack(new int[][] {{24, 24}, {1, 24}, {24, 1}, {1, 1}});
    }

    private static PlainCoder numbered(long count) {
        PlainCoder plain = new PlainCoder();
        plain.beginWriting();
        plain.writeNumber(COUNT, count);
        return plain;
    }

    private static InkCoder reading(PlainCoder plain) {
        plain.endWriting();
        InkCoder ink = new InkCoder();
        for (int v : plain.code) {
            ink.put(v);
        }
        ink.learn(0);
        ink.learn(0);
        ink.mark(1, 2, 3);
        ink.begin(false);
        return ink;
    }

    private static void broken(String what, PlainCoder plain) {
        InkCoder ink = reading(plain);
        int length = ink.length();
        Check.due(what, ink.dictionary(), InkCoder.BROKEN);
        Check.due(what + ": state", ink.state(), 0);
        Check.due(what + ": CODE stays", ink.length(), length);
        Check.outOfBounds(what + ": symbols", () -> ink.symbol(0, -1, 0));
        Check.outOfBounds(what + ": marks", () -> ink.marked(0, 0));
        Check.wrongState(what + ": once more", ink::dictionary);
    }

    private static void sound(String what, PlainCoder plain, int due) {
        plain.writeNumber(0, 5L);
        InkCoder ink = reading(plain);
        Check.due(what, ink.dictionary(), due);
        Check.due(what + ": state", ink.state(), 2);
        Check.due(what + ": what is behind", ink.number(0, 0), 5);
    }

    private static void sameHeightTwice() {
        PlainCoder plain = numbered(2);
        plain.writeNumber(HEIGHT, 2L);
        plain.writeNumber(WIDTH, 3L);
        writePicture(plain, 3, 2);
        plain.writeNumber(WIDTH, null);
        plain.writeNumber(HEIGHT, 0L);
        plain.writeNumber(WIDTH, 3L);
        writePicture(plain, 3, 2);
        plain.writeNumber(WIDTH, null);
        sound("a height that stays", plain, 2);
    }

    private static void brokenCounts() {
        long[] wrong = {9, -1, 100000, 2147483647L, -2147483647L};
        for (long count : wrong) {
            broken("COUNT " + count, numbered(count));
        }
        PlainCoder plain = new PlainCoder();
        plain.beginWriting();
        plain.writeNumber(COUNT, null);
        broken("COUNT of NO NUMBER", plain);
        sound("COUNT 0", numbered(0), 0);
    }

    private static PlainCoder firstOfTwo(long h, long w) {
        PlainCoder plain = numbered(2);
        plain.writeNumber(HEIGHT, h);
        plain.writeNumber(WIDTH, w);
        writePicture(plain, (int) w, (int) h);
        return plain;
    }

    private static void brokenHeights() {
        Long[] wrong = {0L, 25L, -1L, null, 2147483647L};
        for (Long h : wrong) {
            PlainCoder plain = numbered(1);
            plain.writeNumber(HEIGHT, h);
            broken("HEIGHT " + h, plain);
        }
        Long[] wrongNext = {-3L, 22L, null, 2147483647L, -2147483647L};
        for (Long h : wrongNext) {
            PlainCoder plain = firstOfTwo(3, 2);
            plain.writeNumber(WIDTH, null);
            plain.writeNumber(HEIGHT, h);
            broken("next HEIGHT " + h, plain);
        }
        int[] sides = {1, 24};
        for (int h : sides) {
            PlainCoder plain = numbered(1);
            plain.writeNumber(HEIGHT, (long) h);
            plain.writeNumber(WIDTH, 2L);
            writePicture(plain, 2, h);
            plain.writeNumber(WIDTH, null);
            sound("HEIGHT " + h, plain, 1);
        }
    }

    private static void brokenWidths() {
        Long[] wrong = {0L, 25L, -1L, null, 2147483647L};
        for (Long w : wrong) {
            PlainCoder plain = numbered(1);
            plain.writeNumber(HEIGHT, 3L);
            plain.writeNumber(WIDTH, w);
            broken("WIDTH " + w, plain);
        }
        Long[] wrongNext = {-2L, 23L, 2147483647L, -2147483647L};
        for (Long w : wrongNext) {
            PlainCoder plain = firstOfTwo(3, 2);
            plain.writeNumber(WIDTH, w);
            broken("next WIDTH " + w, plain);
        }
        PlainCoder empty = firstOfTwo(3, 2);
        empty.writeNumber(WIDTH, null);
        empty.writeNumber(HEIGHT, 1L);
        empty.writeNumber(WIDTH, null);
        broken("a height without a symbol", empty);
        long[] behind = {0, 1, -1, 500};
        for (long w : behind) {
            PlainCoder plain = firstOfTwo(3, 2);
            plain.writeNumber(WIDTH, 0L);
            writePicture(plain, 2, 3);
            plain.writeNumber(WIDTH, w);
            broken("WIDTH " + w + " behind the last symbol of all", plain);
        }
        PlainCoder plain = firstOfTwo(1, 1);
        plain.writeNumber(WIDTH, 23L);
        writePicture(plain, 24, 1);
        plain.writeNumber(WIDTH, null);
        sound("WIDTHs 1 and 24", plain, 2);
    }

    private static void symbolsShareTemplateTwo() {
        InkCoder ink = new InkCoder();
        PlainCoder plain = numbered(1);
        plain.writeNumber(HEIGHT, 3L);
        plain.writeNumber(WIDTH, 5L);
        writePicture(plain, 5, 3);
        plain.writeNumber(WIDTH, null);
        writePicture(plain, 5, 3);
        ink.size(0, 5, 3);
        ink.flip(0, 0, 0);
        ink.flip(0, 1, 0);
        ink.learn(0);
        ink.begin(true);
        ink.dictionary();
        ink.region(0, 2, false);
        ink.end();
        Check.sameBytes("dictionary and region", ink, plain);
    }
}
