/** Promises 14 and 15: region and refine. What bytes are due comes from the document's coder, written plainly. */
public final class PointsTest {
    private static final String[] LETTER = {
        "0110010",
        "1001000",
        "1001000",
        "1111101",
        "1001001",
        "0000000"
    };

    public static void main(String[] args) {
        regionBytes();
        regionReads();
        rowsAboveTheFirst();
        typicalKeepsTheRest();
        templatesApart();
        regionWrong();
        refineBytes();
        refineShifts();
        refineWrong();
        Check.done();
    }

    private static void set(InkCoder ink, int board, String... rows) {
        ink.size(board, rows[0].length(), rows.length);
        for (int y = 0; y < rows.length; y++) {
            for (int x = 0; x < rows[y].length(); x++) {
                if (rows[y].charAt(x) == '1') {
                    ink.flip(board, x, y);
                }
            }
        }
    }

    private static String rows(InkCoder ink, int board) {
        StringBuilder text = new StringBuilder();
        for (int y = 0; y < ink.board(board, 2); y++) {
            for (int x = 0; x < ink.board(board, 1); x++) {
                text.append(ink.point(board, x, y) ? '1' : '0');
            }
            text.append('\n');
        }
        return text.toString();
    }

    private static int at(String[] rows, int x, int y) {
        return y >= 0 && y < rows.length && x >= 0 && x < rows[0].length() ? rows[y].charAt(x) - '0' : 0;
    }

    /** Where the points of each template stand, by pairs of x and y, as the document lists them. */
    private static final int[][] PLACES = {
        {-1, -2, 0, -2, 1, -2, 2, -2, -2, -1, -1, -1, 0, -1, 1, -1, 2, -1, 3, -1, -3, 0, -2, 0, -1, 0},
        {-1, -2, 0, -2, 1, -2, -2, -1, -1, -1, 0, -1, 1, -1, 2, -1, -2, 0, -1, 0},
        {-3, -1, -2, -1, -1, -1, 0, -1, 1, -1, 2, -1, -4, 0, -3, 0, -2, 0, -1, 0}
    };

    private static void writeRegion(PlainCoder plain, String[] rows, int template, boolean typical) {
        for (int y = 0; y < rows.length; y++) {
            boolean same = rows[y].equals(y == 0 ? "0".repeat(rows[0].length()) : rows[y - 1]);
            if (typical) {
                plain.write("typical " + template, same ? 1 : 0);
            }
            if (typical && same) {
                continue;
            }
            for (int x = 0; x < rows[0].length(); x++) {
                StringBuilder context = new StringBuilder("template " + template + ":");
                int[] places = PLACES[template - 1];
                for (int i = 0; i < places.length; i += 2) {
                    context.append(at(rows, x + places[i], y + places[i + 1]));
                }
                plain.write(context.toString(), at(rows, x, y));
            }
        }
    }

    private static void regionBytes() {
        for (int template = 1; template <= 3; template++) {
            for (int typical = 0; typical < 2; typical++) {
                InkCoder ink = new InkCoder();
                set(ink, 2, LETTER);
                ink.begin(true);
                PlainCoder plain = new PlainCoder();
                plain.beginWriting();
                for (int i = 0; i < 3; i++) {
                    Check.due("region: same rows", ink.region(2, template, typical == 1), typical);
                    writeRegion(plain, LETTER, template, typical == 1);
                }
                ink.end();
                Check.sameBytes("region by " + template + ", typical " + typical, ink, plain);
                Check.due("region: the board stays", rows(ink, 2), String.join("\n", LETTER) + "\n");
            }
        }
    }

    private static void regionReads() {
        InkCoder ink = new InkCoder();
        set(ink, 0, LETTER);
        ink.begin(true);
        for (int template = 1; template <= 3; template++) {
            ink.region(0, template, true);
            ink.region(0, template, false);
        }
        ink.end();
        String due = rows(ink, 0);
        ink.begin(false);
        for (int template = 1; template <= 3; template++) {
            ink.size(3, 7, 6);
            ink.draw(3, 2, 1, 1, 3);
            Check.due("read: same rows", ink.region(3, template, true), 1);
            Check.due("read by " + template, rows(ink, 3), due);
            ink.draw(3, 0, 3, 1, 2);
            Check.due("read: same rows when it is not typical", ink.region(3, template, false), 0);
            Check.due("read by " + template, rows(ink, 3), due);
        }
    }

    private static void rowsAboveTheFirst() {
        InkCoder ink = new InkCoder();
        ink.size(0, 5, 3);
        ink.begin(true);
        Check.due("0s are the same from the first row on", ink.region(0, 1, true), 3);
        ink.flip(0, 4, 0);
        Check.due("a first row with a 1 is not", ink.region(0, 1, true), 1);
        ink.end();
        set(ink, 1, "11111", "11111", "10101");
        ink.begin(false);
        Check.due("read: the same", ink.region(1, 1, true), 3);
        Check.due("read: 0s", ink.board(1, 0), 0);
        Check.due("read: not the same", ink.region(1, 1, true), 1);
        Check.due("read: rows", rows(ink, 1), "00001\n00000\n00000\n");
    }

    private static void typicalKeepsTheRest() {
        InkCoder ink = new InkCoder();
        set(ink, 0, "101", "101", "011", "011", "011");
        ink.begin(true);
        Check.due("rows that are the same", ink.region(0, 2, true), 3);
        ink.number(0, 42);
        ink.end();
        ink.size(1, 3, 5);
        ink.begin(false);
        Check.due("read: rows that are the same", ink.region(1, 2, true), 3);
        Check.due("read: rows", rows(ink, 1), rows(ink, 0));
        Check.due("read: what is behind", ink.number(0, 0), 42);
    }

    /** Each template has contexts of its own, also the one for rows that are the same. */
    private static void templatesApart() {
        InkCoder ink = new InkCoder();
        PlainCoder plain = new PlainCoder();
        ink.begin(true);
        plain.beginWriting();
        String[] one = {"1"};
        set(ink, 0, one);
        for (int i = 0; i < 30; i++) {
            ink.region(0, 1 + i % 3, i % 2 == 0);
            writeRegion(plain, one, 1 + i % 3, i % 2 == 0);
        }
        ink.end();
        Check.sameBytes("templates one after another", ink, plain);
    }

    private static void regionWrong() {
        InkCoder ink = new InkCoder();
        Check.wrongState("region when idle", () -> ink.region(9, 9, true));
        ink.begin(true);
        Check.outOfBounds("region(4, 9)", () -> ink.region(4, 9, true));
        Check.outOfBounds("region(-1, 1)", () -> ink.region(-1, 1, false));
        Check.wrongArgument("region(0, 0)", () -> ink.region(0, 0, false));
        Check.wrongArgument("region(0, 4)", () -> ink.region(0, 4, false));
        Check.wrongArgument("region(3, -1)", () -> ink.region(3, -1, true));
        Check.due("refused ones write nothing", ink.end(), 4);
        Check.wrongState("region when idle again", () -> ink.region(0, 1, true));
    }

    private static int writeRefinement(PlainCoder plain, String[] rows, String[] other, int dx, int dy) {
        int[] here = {-1, -1, 0, -1, 1, -1, -1, 0};
        int[] there = {0, -1, -1, 0, 0, 0, 1, 0, 0, 1, 1, 1};
        int unlike = 0;
        for (int y = 0; y < rows.length; y++) {
            for (int x = 0; x < rows[0].length(); x++) {
                StringBuilder context = new StringBuilder("refine:");
                for (int i = 0; i < here.length; i += 2) {
                    context.append(at(rows, x + here[i], y + here[i + 1]));
                }
                for (int i = 0; i < there.length; i += 2) {
                    context.append(at(other, x - dx + there[i], y - dy + there[i + 1]));
                }
                plain.write(context.toString(), at(rows, x, y));
                unlike += at(rows, x, y) == at(other, x - dx, y - dy) ? 0 : 1;
            }
        }
        return unlike;
    }

    private static void refineBytes() {
        String[] other = {"01100", "10110", "11110", "10011"};
        int[][] shifts = {{0, 0}, {1, 2}, {-2, -1}, {6, 5}, {-4, 3}, {24, -24}, {-24, 24}, {7, 0}, {-5, 0}, {0, 6}};
        InkCoder ink = new InkCoder();
        PlainCoder plain = new PlainCoder();
        set(ink, 0, LETTER);
        set(ink, 1, other);
        ink.begin(true);
        plain.beginWriting();
        int[] due = new int[shifts.length];
        for (int i = 0; i < shifts.length; i++) {
            due[i] = writeRefinement(plain, LETTER, other, shifts[i][0], shifts[i][1]);
            Check.due("refine by " + shifts[i][0] + ", " + shifts[i][1], ink.refine(0, 1, shifts[i][0], shifts[i][1]),
                    due[i]);
        }
        ink.end();
        Check.sameBytes("refine", ink, plain);
        ink.begin(false);
        for (int i = 0; i < shifts.length; i++) {
            ink.size(2, 7, 6);
            ink.flip(2, i % 7, i % 6);
            Check.due("refine: read", ink.refine(2, 1, shifts[i][0], shifts[i][1]), due[i]);
            Check.due("refine: points", ink.board(2, 0), ink.board(0, 0));
        }
        Check.due("refine: read rows", rows(ink, 2), rows(ink, 0));
    }

    private static void refineShifts() {
        InkCoder ink = new InkCoder();
        set(ink, 0, "00000", "00010", "00000");
        set(ink, 1, "100");
        ink.begin(true);
        Check.due("the same but for the shift", ink.refine(0, 1, 3, 1), 0);
        Check.due("not shifted", ink.refine(0, 1, 0, 0), 2);
        Check.due("shifted out of the board", ink.refine(0, 1, -1, 0), 1);
        Check.due("far away", ink.refine(0, 1, 24, 24), 1);
    }

    private static void refineWrong() {
        InkCoder ink = new InkCoder();
        Check.wrongState("refine when idle", () -> ink.refine(9, 9, 99, 99));
        ink.begin(true);
        Check.outOfBounds("refine(4, 0)", () -> ink.refine(4, 0, 99, 0));
        Check.outOfBounds("refine(0, 4)", () -> ink.refine(0, 4, 0, 99));
        Check.outOfBounds("refine(-1, -1)", () -> ink.refine(-1, -1, 0, 0));
        Check.wrongArgument("refine(2, 2)", () -> ink.refine(2, 2, 0, 0));
        Check.wrongArgument("refine by 25, 0", () -> ink.refine(0, 1, 25, 0));
        Check.wrongArgument("refine by -25, 0", () -> ink.refine(0, 1, -25, 0));
        Check.wrongArgument("refine by 0, 25", () -> ink.refine(0, 1, 0, 25));
        Check.wrongArgument("refine by 0, -25", () -> ink.refine(0, 1, 0, -25));
        Check.due("refused ones write nothing", ink.end(), 4);
    }
}
