/** Promise 23: text. */
public final class TextTest {
    private static final int COUNT = 3;
    private static final int ROW = 6;
    private static final int FIRST = 7;
    private static final int GAP = 8;

    public static void main(String[] args) {
        wrong();
        none();
        corners();
        operations();
        marksAreDrawnInTheirOrder();
        bytesAreDue();
        thereAndBack();
        rowsInAnyOrder();
        brokenCounts();
        brokenRows();
        brokenFirsts();
        brokenIndexes();
        brokenPlaces();
        brokenGaps();
        nothingIsDrawn();
        Check.done();
    }

    /** Symbol 0 is 3 wide and 2 high, symbol 1 is 1 wide and 4 high; all their points are 1. */
    private static InkCoder withSymbols() {
        InkCoder ink = new InkCoder();
        ink.size(0, 3, 2);
        for (int i = 0; i < 6; i++) {
            ink.flip(0, i % 3, i / 3);
        }
        ink.learn(0);
        ink.size(0, 1, 4);
        for (int y = 0; y < 4; y++) {
            ink.flip(0, 0, y);
        }
        ink.learn(0);
        return ink;
    }

    private static void wrong() {
        InkCoder ink = withSymbols();
        ink.mark(0, 0, 0);
        Check.wrongState("text when idle", () -> ink.text(9, 9, true, 9));
        ink.begin(true);
        Check.outOfBounds("text(4, ..)", () -> ink.text(4, 9, true, 9));
        Check.outOfBounds("text(-1, ..)", () -> ink.text(-1, 0, false, 0));
        Check.wrongArgument("corner 4", () -> ink.text(1, 4, false, 0));
        Check.wrongArgument("corner -1", () -> ink.text(1, -1, false, 0));
        Check.wrongArgument("operation 5", () -> ink.text(1, 0, false, 5));
        Check.wrongArgument("operation -1", () -> ink.text(1, 0, true, -1));
        Check.due("nothing was drawn", ink.board(1, 0), 0);
        Check.due("refused ones write nothing", ink.end(), 4);
    }

    private static void none() {
        InkCoder ink = withSymbols();
        ink.begin(true);
        Check.due("no marks", ink.text(1, 0, false, 4), 0);
        ink.number(2, -6);
        ink.end();
        ink.mark(0, 0, 0);
        ink.begin(false);
        Check.due("no marks, read", ink.text(1, 0, false, 4), 0);
        Check.outOfBounds("marked", () -> ink.marked(0, 0));
        Check.due("symbols stay", ink.symbol(1, -2, 0), 4);
        Check.due("what is behind", ink.number(2, 0), -6);
    }

    /** Where the symbol of 3 times 2 stands with its corner at (10, 12), or turned at (12, 10). */
    private static void corners() {
        int[][] due = {{10, 11}, {10, 12}, {8, 11}, {8, 12}};
        int[][] dueTurned = {{12, 9}, {12, 10}, {10, 9}, {10, 10}};
        for (int corner = 0; corner < 4; corner++) {
            for (int turned = 0; turned < 2; turned++) {
                InkCoder ink = withSymbols();
                ink.mark(0, 10, 12);
                ink.size(1, 24, 24);
                ink.begin(true);
                Check.due("text", ink.text(1, corner, turned == 1, 0), 1);
                int[] place = turned == 1 ? dueTurned[corner] : due[corner];
                String what = "corner " + corner + ", turned " + turned;
                Check.due(what + ": points", ink.board(1, 0), 6);
                for (int i = 0; i < 6; i++) {
                    Check.due(what, ink.point(1, place[0] + i % 3, place[1] + i / 3), true);
                }
            }
        }
    }

    private static void operations() {
        int[] due = {6, 1, 5, 1, 6};
        for (int operation = 0; operation < 5; operation++) {
            InkCoder ink = withSymbols();
            ink.mark(0, 0, 0);
            ink.size(1, 3, 2);
            ink.flip(1, 1, 1);
            ink.begin(true);
            ink.text(1, 1, false, operation);
            Check.due("operation " + operation, ink.board(1, 0), due[operation]);
        }
    }

    private static void marksAreDrawnInTheirOrder() {
        InkCoder ink = withSymbols();
        ink.size(2, 2, 1);
        ink.flip(2, 1, 0);
        ink.learn(2);
        ink.mark(0, 0, 0);
        ink.mark(2, 1, 0);
        ink.size(1, 4, 2);
        ink.begin(true);
        Check.due("text", ink.text(1, 1, false, 4), 2);
        Check.due("the later one covers", ink.point(1, 1, 0), false);
        Check.due("points", ink.board(1, 0), 5);
    }

    private static void writeAll(PlainCoder plain, int corner, boolean turned) {
        // by symbols: how much of c comes before S, and how much behind it
        int[] extent = turned ? new int[] {1, 3} : new int[] {2, 0};
        boolean far = turned ? corner == 0 || corner == 2 : corner >= 2;
        int[] before = far ? extent : new int[2];
        int[] behind = far ? new int[2] : extent;
        plain.writeNumber(COUNT, 5L);
        plain.writeNumber(ROW, -2L);
        plain.writeNumber(FIRST, 5L - before[0]);
        plain.writeIndex(0);
        plain.writeNumber(GAP, 9L - before[1] - (5 + behind[0]));
        plain.writeIndex(1);
        plain.writeNumber(GAP, 4L - before[0] - (9 + behind[1]));
        plain.writeIndex(0);
        plain.writeNumber(GAP, null);
        plain.writeNumber(ROW, 5L);
        plain.writeNumber(FIRST, (-7L - before[1]) - (5 - before[0]));
        plain.writeIndex(1);
        plain.writeNumber(GAP, null);
        plain.writeNumber(ROW, 1L);
        plain.writeNumber(FIRST, (100L - before[0]) - (-7 - before[1]));
        plain.writeIndex(0);
        plain.writeNumber(GAP, null);
    }

    private static void markAll(InkCoder ink) {
        ink.mark(0, 5, -2);
        ink.mark(1, 9, -2);
        ink.mark(0, 4, -2);
        ink.mark(1, -7, 3);
        ink.mark(0, 100, 4);
    }

    private static void bytesAreDue() {
        for (int corner = 0; corner < 4; corner++) {
            for (int turned = 0; turned < 2; turned++) {
                InkCoder ink = withSymbols();
                markAll(ink);
                ink.begin(true);
                Check.due("text", ink.text(1, corner, turned == 1, 0), 5);
                ink.end();
                PlainCoder plain = new PlainCoder();
                plain.beginWriting();
                writeAll(plain, corner, turned == 1);
                Check.sameBytes("text", ink, plain);
                Check.due("marks stay", ink.marked(4, 1), 100);
            }
        }
    }

    private static void thereAndBack() {
        for (int corner = 0; corner < 4; corner++) {
            for (int turned = 0; turned < 2; turned++) {
                InkCoder ink = withSymbols();
                markAll(ink);
                ink.size(1, 20, 16);
                ink.size(2, 20, 16);
                ink.begin(true);
                ink.text(1, corner, turned == 1, 2);
                ink.number(0, 3);
                ink.end();
                int[] before = allMarks(ink, 5);
                ink.mark(1, 8, 50);
                ink.begin(false);
                Check.due("read", ink.text(2, corner, turned == 1, 2), 5);
                int[] after = allMarks(ink, 5);
                for (int i = 0; i < 15; i++) {
                    Check.due("marked(" + i / 3 + ", " + i % 3 + ")", after[i], before[i]);
                }
                Check.outOfBounds("the mark that was there", () -> ink.marked(5, 0));
                Check.due("what is behind", ink.number(0, 0), 3);
                ink.draw(1, 2, 0, 0, 2);
                Check.due("the same is drawn", ink.board(1, 0), 0);
            }
        }
    }

    private static int[] allMarks(InkCoder ink, int count) {
        int[] all = new int[3 * count];
        for (int i = 0; i < all.length; i++) {
            all[i] = ink.marked(i / 3, i % 3);
        }
        return all;
    }

    private static PlainCoder numbered(long count) {
        PlainCoder plain = new PlainCoder();
        plain.beginWriting();
        plain.writeNumber(COUNT, count);
        return plain;
    }

    /** Begins a row with a mark of symbol 0. */
    private static void openRow(PlainCoder plain, Long down, Long first) {
        plain.writeNumber(ROW, down);
        plain.writeNumber(FIRST, first);
        plain.writeIndex(0);
    }

    private static InkCoder reading(PlainCoder plain) {
        plain.endWriting();
        InkCoder ink = withSymbols();
        for (int v : plain.code) {
            ink.put(v);
        }
        ink.mark(1, 2, 3);
        ink.size(1, 24, 24);
        ink.begin(false);
        return ink;
    }

    private static void broken(String what, PlainCoder plain) {
        InkCoder ink = reading(plain);
        int length = ink.length();
        Check.due(what, ink.text(1, 1, false, 3), InkCoder.BROKEN);
        Check.due(what + ": state", ink.state(), 0);
        Check.due(what + ": CODE stays", ink.length(), length);
        Check.due(what + ": symbols stay", ink.symbol(1, -2, 0), 4);
        Check.outOfBounds(what + ": marks", () -> ink.marked(0, 0));
        Check.due(what + ": nothing is drawn", ink.board(1, 0), 0);
        Check.wrongState(what + ": once more", () -> ink.text(1, 1, false, 3));
    }

    private static InkCoder sound(String what, PlainCoder plain, int due) {
        plain.writeNumber(0, 5L);
        InkCoder ink = reading(plain);
        Check.due(what, ink.text(1, 1, false, 0), due);
        Check.due(what + ": state", ink.state(), 2);
        Check.due(what + ": what is behind", ink.number(0, 0), 5);
        return ink;
    }

    private static void rowsInAnyOrder() {
        PlainCoder plain = numbered(3);
        openRow(plain, 9L, 4L);
        plain.writeNumber(GAP, null);
        openRow(plain, -3L, 1L);
        plain.writeNumber(GAP, null);
        openRow(plain, 0L, 1L);
        plain.writeNumber(GAP, null);
        InkCoder ink = sound("rows in any order", plain, 3);
        int[] due = {0, 4, 9, 0, 5, 6, 0, 6, 6};
        int[] all = allMarks(ink, 3);
        for (int i = 0; i < 9; i++) {
            Check.due("marked(" + i / 3 + ", " + i % 3 + ")", all[i], due[i]);
        }
        Check.wrongArgument("mark above the latest", () -> ink.mark(0, 0, 5));
        Check.due("mark below the latest", ink.mark(0, 0, 6), 4);
    }

    private static void brokenCounts() {
        long[] wrong = {13, -1, 100000, 2147483647L, -2147483647L};
        for (long count : wrong) {
            broken("COUNT " + count, numbered(count));
        }
        PlainCoder plain = new PlainCoder();
        plain.beginWriting();
        plain.writeNumber(COUNT, null);
        broken("COUNT of NO NUMBER", plain);
        PlainCoder twelve = numbered(12);
        openRow(twelve, 0L, 0L);
        for (int i = 1; i < 12; i++) {
            twelve.writeNumber(GAP, -2L);
            twelve.writeIndex(i % 2);
        }
        twelve.writeNumber(GAP, null);
        sound("COUNT 12", twelve, 12);
    }

    private static void brokenRows() {
        Long[] wrong = {101L, -101L, null, 2147483647L, -2147483647L};
        for (Long down : wrong) {
            PlainCoder plain = numbered(1);
            openRow(plain, down, 0L);
            plain.writeNumber(GAP, null);
            broken("ROW " + down, plain);
        }
        PlainCoder plain = numbered(2);
        openRow(plain, 100L, 0L);
        plain.writeNumber(GAP, null);
        openRow(plain, -200L, 0L);
        plain.writeNumber(GAP, null);
        Check.due("T is -100", sound("ROWs to 100 and to -100", plain, 2).marked(1, 2), -100);
        PlainCoder lower = numbered(2);
        openRow(lower, 100L, 0L);
        lower.writeNumber(GAP, null);
        openRow(lower, 1L, 0L);
        broken("ROW to 101", lower);
    }

    private static void brokenFirsts() {
        Long[] wrong = {1001L, -1001L, null, 2147483647L, -2147483647L};
        for (Long first : wrong) {
            PlainCoder plain = numbered(1);
            openRow(plain, 0L, first);
            plain.writeNumber(GAP, null);
            broken("FIRST " + first, plain);
        }
        PlainCoder plain = numbered(2);
        openRow(plain, 0L, -1000L);
        plain.writeNumber(GAP, null);
        openRow(plain, 0L, 2000L);
        plain.writeNumber(GAP, null);
        InkCoder ink = sound("FIRSTs to -1000 and to 1000", plain, 2);
        Check.due("S is -1000", ink.marked(0, 1), -1000);
        Check.due("S is 1000", ink.marked(1, 1), 1000);
        ink.begin(true);
        Check.due("they are written, too", ink.text(1, 1, false, 0), 2);
        ink.end();
        ink.begin(false);
        Check.due("and read again", ink.text(1, 1, false, 0), 2);
        Check.due("S is 1000", ink.marked(1, 1), 1000);
    }

    private static void brokenIndexes() {
        for (int index = 0; index < 8; index++) {
            PlainCoder plain = numbered(1);
            plain.writeNumber(ROW, 0L);
            plain.writeNumber(FIRST, 0L);
            plain.writeIndex(index);
            plain.writeNumber(GAP, null);
            if (index < 2) {
                Check.due("INDEX", sound("INDEX " + index, plain, 1).marked(0, 0), index);
            } else {
                broken("INDEX " + index, plain);
            }
        }
    }

    /** S counts, not c: the symbol is 3 wide, so c is 2 more behind it with a corner at the left. */
    private static void brokenPlaces() {
        PlainCoder edge = numbered(2);
        openRow(edge, 0L, 999L);
        edge.writeNumber(GAP, -1L);
        edge.writeIndex(0);
        edge.writeNumber(GAP, null);
        Check.due("S is 1000", sound("c behind S", edge, 2).marked(1, 1), 1000);
        PlainCoder over = numbered(2);
        openRow(over, 0L, 999L);
        over.writeNumber(GAP, 0L);
        over.writeIndex(0);
        over.writeNumber(GAP, null);
        broken("S is 1001", over);
        PlainCoder right = numbered(1);
        openRow(right, 0L, 999L);
        right.writeNumber(GAP, null);
        InkCoder ink = reading(right);
        Check.due("S is 1001 with a corner at the right", ink.text(1, 3, false, 0), InkCoder.BROKEN);
        ink.begin(false);
        Check.due("S is 1000 when it is turned, with a lower corner", ink.text(1, 2, true, 0), 1);
        Check.due("S", ink.marked(0, 1), 1000);
    }

    private static void brokenGaps() {
        long[] behind = {0, 1, -1, 500};
        for (long gap : behind) {
            PlainCoder plain = numbered(2);
            openRow(plain, 0L, 0L);
            plain.writeNumber(GAP, 4L);
            plain.writeIndex(1);
            plain.writeNumber(GAP, gap);
            broken("GAP " + gap + " behind the last mark of all", plain);
        }
        long[] far = {2147483647L, -2147483647L, 1000, -1010};
        for (long gap : far) {
            PlainCoder plain = numbered(2);
            openRow(plain, 0L, 0L);
            plain.writeNumber(GAP, gap);
            plain.writeIndex(1);
            plain.writeNumber(GAP, null);
            broken("GAP " + gap, plain);
        }
    }

    /** Even if the marks before the broken one were fine. */
    private static void nothingIsDrawn() {
        PlainCoder plain = numbered(2);
        openRow(plain, 5L, 5L);
        plain.writeNumber(GAP, 3L);
        plain.writeIndex(7);
        broken("the second mark", plain);
    }
}
