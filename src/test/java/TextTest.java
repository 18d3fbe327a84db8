/** Promise 23: text. */
public final class TextTest {
    private static final int COUNT = 3;
    private static final int ROW = 6;
    private static final int FIRST = 7;
    private static final int GAP = 8;

    public static void main(String[] args) {
        wrong();
        none();
        corners();
        operations();
        marksAreDrawnInTheirOrder();
        bytesAreDue();
        thereAndBack();
        outermostMarks();
        twelveMarks();
        allIndexes();
        farMarksAreWritten();
        countIsSharedWithTheDictionary();
        Check.done();
    }

    /** Symbol 0 is 3 wide and 2 high, symbol 1 is 1 wide and 4 high; all their points are 1. */
    private static InkCoder withSymbols() {
        InkCoder ink = new InkCoder();
        ink.size(0, 3, 2);
        for (int i = 0; i < 6; i++) {
            ink.flip(0, i % 3, i / 3);
        }
        ink.learn(0);
        ink.size(0, 1, 4);
        for (int y = 0; y < 4; y++) {
            ink.flip(0, 0, y);
        }
        ink.learn(0);
        return ink;
    }

    private static void wrong() {
        InkCoder ink = withSymbols();
        ink.mark(0, 0, 0);
        Check.wrongState("text when idle", () -> ink.text(9, 9, true, 9));
        ink.begin(true);
        Check.outOfBounds("text(4, ..)", () -> ink.text(4, 9, true, 9));
        Check.outOfBounds("text(-1, ..)", () -> ink.text(-1, 0, false, 0));
        Check.wrongArgument("corner 4", () -> ink.text(1, 4, false, 0));
        Check.wrongArgument("corner -1", () -> ink.text(1, -1, false, 0));
        Check.wrongArgument("operation 5", () -> ink.text(1, 0, false, 5));
        Check.wrongArgument("operation -1", () -> ink.text(1, 0, true, -1));
        Check.due("nothing was drawn", ink.board(1, 0), 0);
        Check.due("refused ones write nothing", ink.end(), 4);
    }

    private static void none() {
        InkCoder ink = withSymbols();
        ink.begin(true);
        Check.due("no marks", ink.text(1, 0, false, 4), 0);
        ink.number(2, -6);
        ink.end();
        ink.mark(0, 0, 0);
        ink.begin(false);
        Check.due("no marks, read", ink.text(1, 0, false, 4), 0);
        Check.outOfBounds("marked", () -> ink.marked(0, 0));
        Check.due("symbols stay", ink.symbol(1, -2, 0), 4);
        Check.due("what is behind", ink.number(2, 0), -6);
    }

    /** Where the symbol of 3 times 2 stands with its corner at (10, 12), or turned at (12, 10). */
    private static void corners() {
        int[][] due = {{10, 11}, {10, 12}, {8, 11}, {8, 12}};
        int[][] dueTurned = {{12, 9}, {12, 10}, {10, 9}, {10, 10}};
        for (int corner = 0; corner < 4; corner++) {
            for (int turned = 0; turned < 2; turned++) {
                InkCoder ink = withSymbols();
                ink.mark(0, 10, 12);
                ink.size(1, 24, 24);
                ink.begin(true);
                Check.due("text", ink.text(1, corner, turned == 1, 0), 1);
                int[] place = turned == 1 ? dueTurned[corner] : due[corner];
                String what = "corner " + corner + ", turned " + turned;
                Check.due(what + ": points", ink.board(1, 0), 6);
                for (int i = 0; i < 6; i++) {
                    Check.due(what, ink.point(1, place[0] + i % 3, place[1] + i / 3), true);
                }
            }
        }
    }

    private static void operations() {
        int[] due = {6, 1, 5, 1, 6};
        for (int operation = 0; operation < 5; operation++) {
            InkCoder ink = withSymbols();
            ink.mark(0, 0, 0);
            ink.size(1, 3, 2);
            ink.flip(1, 1, 1);
            ink.begin(true);
            ink.text(1, 1, false, operation);
            Check.due("operation " + operation, ink.board(1, 0), due[operation]);
        }
    }

    private static void marksAreDrawnInTheirOrder() {
        InkCoder ink = withSymbols();
        ink.size(2, 2, 1);
        ink.flip(2, 1, 0);
        ink.learn(2);
        ink.mark(0, 0, 0);
        ink.mark(2, 1, 0);
        ink.size(1, 4, 2);
        ink.begin(true);
        Check.due("text", ink.text(1, 1, false, 4), 2);
        Check.due("the later one covers", ink.point(1, 1, 0), false);
        Check.due("points", ink.board(1, 0), 5);
    }

    private static void writeAll(PlainCoder plain, int corner, boolean turned) {
        // by symbols: how much of c comes before S, and how much behind it
        int[] extent = turned ? new int[] {1, 3} : new int[] {2, 0};
        boolean far = turned ? corner == 0 || corner == 2 : corner >= 2;
        int[] before = far ? extent : new int[2];
        int[] behind = far ? new int[2] : extent;
        plain.writeNumber(COUNT, 5L);
        plain.writeNumber(ROW, -2L);
        plain.writeNumber(FIRST, 5L - before[0]);
        plain.writeIndex(0);
        plain.writeNumber(GAP, 9L - before[1] - (5 + behind[0]));
        plain.writeIndex(1);
        plain.writeNumber(GAP, 4L - before[0] - (9 + behind[1]));
        plain.writeIndex(0);
        plain.writeNumber(GAP, null);
        plain.writeNumber(ROW, 5L);
        plain.writeNumber(FIRST, (-7L - before[1]) - (5 - before[0]));
        plain.writeIndex(1);
        plain.writeNumber(GAP, null);
        plain.writeNumber(ROW, 1L);
        plain.writeNumber(FIRST, (100L - before[0]) - (-7 - before[1]));
        plain.writeIndex(0);
        plain.writeNumber(GAP, null);
    }

    private static void markAll(InkCoder ink) {
        ink.mark(0, 5, -2);
        ink.mark(1, 9, -2);
        ink.mark(0, 4, -2);
        ink.mark(1, -7, 3);
        ink.mark(0, 100, 4);
    }

    private static void bytesAreDue() {
        for (int corner = 0; corner < 4; corner++) {
            for (int turned = 0; turned < 2; turned++) {
                InkCoder ink = withSymbols();
                markAll(ink);
                ink.begin(true);
                Check.due("text", ink.text(1, corner, turned == 1, 0), 5);
                ink.end();
                PlainCoder plain = new PlainCoder();
                plain.beginWriting();
                writeAll(plain, corner, turned == 1);
                Check.sameBytes("text", ink, plain);
                Check.due("marks stay", ink.marked(4, 1), 100);
            }
        }
    }

    private static void thereAndBack() {
        for (int corner = 0; corner < 4; corner++) {
            for (int turned = 0; turned < 2; turned++) {
                InkCoder ink = withSymbols();
                markAll(ink);
                ink.size(1, 20, 16);
                ink.size(2, 20, 16);
                ink.begin(true);
                ink.text(1, corner, turned == 1, 2);
                ink.number(0, 3);
                ink.end();
                int[] before = allMarks(ink, 5);
                ink.mark(1, 8, 50);
                ink.begin(false);
                Check.due("read", ink.text(2, corner, turned == 1, 2), 5);
                int[] after = allMarks(ink, 5);
                for (int i = 0; i < 15; i++) {
                    Check.due("marked(" + i / 3 + ", " + i % 3 + ")", after[i], before[i]);
                }
                Check.outOfBounds("the mark that was there", () -> ink.marked(5, 0));
                Check.due("what is behind", ink.number(0, 0), 3);
                ink.draw(1, 2, 0, 0, 2);
                Check.due("the same is drawn", ink.board(1, 0), 0);
            }
        }
    }

    private static int[] allMarks(InkCoder ink, int count) {
        int[] all = new int[3 * count];
        for (int i = 0; i < all.length; i++) {
            all[i] = ink.marked(i / 3, i % 3);
        }
        return all;
    }
    private static void sameBytes(String what, InkCoder ink, String items) {
        Check.due(what, Sight.bytes(ink), Made.bytes(items));
    }

    /** S and T are -100 .. 100, and the numbers are such that they come out. */
    private static void outermostMarks() {
        for (int corner = 0; corner < 4; corner++) {
            for (int turned = 0; turned < 2; turned++) {
                InkCoder ink = withSymbols();
                int[][] all = {{0, -100, -100}, {1, 100, -100}, {0, 100, 100}, {0, -100, 100}};
                for (int[] mark : all) {
                    ink.mark(mark[0], mark[1], mark[2]);
                }
                int extent = turned == 1 ? 1 : 2;
                int extentOfOne = turned == 1 ? 3 : 0;
                boolean far = turned == 1 ? corner == 0 || corner == 2 : corner >= 2;
                int first = far ? -100 - extent : -100;
                ink.begin(true);
                Check.due("text", ink.text(1, corner, turned == 1, 0), 4);
                ink.end();
                sameBytes("outermost marks by corner " + corner + ", turned " + turned, ink,
                        "C4 R-100 F" + first + " I0 G" + (200 - (far ? extentOfOne : extent)) + " I1 G- R200 F200 I0 G"
                        + (-200 - extent) + " I0 G-");
                ink.begin(false);
                Check.due("read", ink.text(1, corner, turned == 1, 0), 4);
                int[] read = allMarks(ink, 4);
                for (int i = 0; i < 12; i++) {
                    Check.due("marked(" + i / 3 + ", " + i % 3 + ")", read[i], all[i / 3][i % 3]);
                }
            }
        }
    }

    /** Twelve in one row, and twelve rows. */
    private static void twelveMarks() {
        for (int down = 0; down < 2; down++) {
            InkCoder ink = withSymbols();
            StringBuilder items = new StringBuilder("C12 R1 F1 I1");
            for (int k = 0; k < 12; k++) {
                Check.due("mark", ink.mark(1, 1 + k, 1 + k * down), k + 1);
                if (k > 0) {
                    items.append(down == 1 ? " G- R1 F1 I1" : " G1 I1");
                }
            }
            ink.begin(true);
            Check.due("twelve", ink.text(1, 1, false, 0), 12);
            ink.end();
            sameBytes("twelve marks", ink, items + " G-");
            ink.begin(false);
            Check.due("twelve, read", ink.text(1, 1, false, 0), 12);
            Check.due("the last one", ink.marked(11, 1) * 100 + ink.marked(11, 2), 1200 + 1 + 11 * down);
            Check.unsupported("a thirteenth", () -> ink.mark(1, 0, 100));
        }
    }

    private static void allIndexes() {
        InkCoder ink = new InkCoder();
        StringBuilder items = new StringBuilder("C8 R0 F0 I0");
        for (int k = 0; k < 8; k++) {
            ink.learn(0);
            ink.mark(k, k, 0);
            items.append(k == 0 ? "" : " G1 I" + k);
        }
        ink.begin(true);
        Check.due("eight symbols", ink.text(1, 1, false, 0), 8);
        ink.end();
        sameBytes("eight symbols", ink, items + " G-");
        ink.begin(false);
        Check.due("eight symbols, read", ink.text(1, 1, false, 0), 8);
        for (int k = 0; k < 8; k++) {
            Check.due("marked(" + k + ", 0)", ink.marked(k, 0), k);
        }
    }

    /** What was read with S up to 1000 can be written, too. */
    private static void farMarksAreWritten() {
        String items = "C3 R100 F-1000 I0 G- R-200 F2000 I0 G-2002 I1 G-";
        InkCoder ink = withSymbols();
        Made.put(ink, items);
        ink.begin(false);
        Check.due("far marks", ink.text(1, 1, false, 0), 3);
        ink.begin(true);
        Check.due("far marks, written", ink.text(1, 1, false, 0), 3);
        ink.end();
        sameBytes("far marks", ink, items);
        int[] due = {0, -1000, 100, 0, 1000, -100, 1, -1000, -100};
        int[] all = allMarks(ink, 3);
        for (int i = 0; i < 9; i++) {
            Check.due("far marks: marked(" + i / 3 + ", " + i % 3 + ")", all[i], due[i]);
        }
    }

    /** COUNT is one kind; those of number() are others. */
    private static void countIsSharedWithTheDictionary() {
        InkCoder ink = new InkCoder();
        for (int k = 0; k < 3; k++) {
            ink.learn(0);
            ink.mark(k, k, 0);
        }
        ink.begin(true);
        for (int i = 0; i < 2; i++) {
            ink.dictionary();
            ink.number(0, 3);
            ink.text(1, 1, false, 0);
            ink.number(0, 3);
        }
        ink.end();
        String dictionary = "C3 H1 W1 Z W0 Z W0 Z W- N3 ";
        String text = "C3 R0 F0 I0 G1 I1 G1 I2 G- N3";
        sameBytes("dictionaries and texts", ink, dictionary + text + " " + dictionary + text);
    }
}
