/** Promises 14 and 15: region and refine. What bytes are due comes from the document's coder, written plainly. */
public final class PointsTest {
    private static final String[] LETTER = {
        "0110010",
        "1001000",
        "1001000",
        "1111101",
        "1001001",
        "0000000"
    };

    public static void main(String[] args) {
        regionBytes();
        regionReads();
        rowsAboveTheFirst();
        typicalKeepsTheRest();
        templatesApart();
        smallestAndLargest();
        countsOfSameRows();
        sameRowsAreReadFromAbove();
        regionWrong();
        refineBytes();
        refineShifts();
        refineOverTheEdges();
        refineWithOtherSizes();
        refineWrong();
        Check.done();
    }

    private static int at(String[] rows, int x, int y) {
        return y >= 0 && y < rows.length && x >= 0 && x < rows[0].length() ? rows[y].charAt(x) - '0' : 0;
    }

    /** Where the points of each template stand, by pairs of x and y, as the document lists them. */
    private static final int[][] PLACES = {
        {-1, -2, 0, -2, 1, -2, 2, -2, -2, -1, -1, -1, 0, -1, 1, -1, 2, -1, 3, -1, -3, 0, -2, 0, -1, 0},
        {-1, -2, 0, -2, 1, -2, -2, -1, -1, -1, 0, -1, 1, -1, 2, -1, -2, 0, -1, 0},
        {-3, -1, -2, -1, -1, -1, 0, -1, 1, -1, 2, -1, -4, 0, -3, 0, -2, 0, -1, 0}
    };

    private static void writeRegion(PlainCoder plain, String[] rows, int template, boolean typical) {
        for (int y = 0; y < rows.length; y++) {
            boolean same = rows[y].equals(y == 0 ? "0".repeat(rows[0].length()) : rows[y - 1]);
            if (typical) {
                plain.write("typical " + template, same ? 1 : 0);
            }
            if (typical && same) {
                continue;
            }
            for (int x = 0; x < rows[0].length(); x++) {
                StringBuilder context = new StringBuilder("template " + template + ":");
                int[] places = PLACES[template - 1];
                for (int i = 0; i < places.length; i += 2) {
                    context.append(at(rows, x + places[i], y + places[i + 1]));
                }
                plain.write(context.toString(), at(rows, x, y));
            }
        }
    }

    private static void regionBytes() {
        for (int template = 1; template <= 3; template++) {
            for (int typical = 0; typical < 2; typical++) {
                InkCoder ink = new InkCoder();
                Sight.set(ink, 2, LETTER);
                ink.begin(true);
                PlainCoder plain = new PlainCoder();
                plain.beginWriting();
                for (int i = 0; i < 3; i++) {
                    Check.due("region: same rows", ink.region(2, template, typical == 1), typical);
                    writeRegion(plain, LETTER, template, typical == 1);
                }
                ink.end();
                Check.sameBytes("region by " + template + ", typical " + typical, ink, plain);
                Check.due("region: the board stays", Sight.rows(ink, 2), String.join("\n", LETTER) + "\n");
            }
        }
    }

    private static void regionReads() {
        for (int template = 1; template <= 3; template++) {
            InkCoder ink = new InkCoder();
            Sight.set(ink, 0, LETTER);
            ink.begin(true);
            ink.region(0, template, true);
            ink.region(0, template, false);
            ink.end();
            String due = Sight.rows(ink, 0);
            ink.size(3, 7, 6);
            ink.draw(3, 2, 1, 1, 3);
            ink.begin(false);
            Check.due("read: same rows", ink.region(3, template, true), 1);
            Check.due("read by " + template, Sight.rows(ink, 3), due);
            ink.draw(3, 0, 3, 1, 2);
            Check.due("read: same rows when it is not typical", ink.region(3, template, false), 0);
            Check.due("read by " + template, Sight.rows(ink, 3), due);
        }
    }

    private static void rowsAboveTheFirst() {
        InkCoder ink = new InkCoder();
        ink.size(0, 5, 3);
        ink.begin(true);
        Check.due("0s are the same from the first row on", ink.region(0, 1, true), 3);
        ink.flip(0, 4, 0);
        Check.due("a first row with a 1 is not", ink.region(0, 1, true), 1);
        ink.end();
        Sight.set(ink, 1, "11111", "11111", "10101");
        ink.begin(false);
        Check.due("read: the same", ink.region(1, 1, true), 3);
        Check.due("read: 0s", ink.board(1, 0), 0);
        Check.due("read: not the same", ink.region(1, 1, true), 1);
        Check.due("read: rows", Sight.rows(ink, 1), "00001\n00000\n00000\n");
    }

    private static void typicalKeepsTheRest() {
        InkCoder ink = new InkCoder();
        Sight.set(ink, 0, "101", "101", "011", "011", "011");
        ink.begin(true);
        Check.due("rows that are the same", ink.region(0, 2, true), 3);
        ink.number(0, 42);
        ink.end();
        ink.size(1, 3, 5);
        ink.begin(false);
        Check.due("read: rows that are the same", ink.region(1, 2, true), 3);
        Check.due("read: rows", Sight.rows(ink, 1), Sight.rows(ink, 0));
        Check.due("read: what is behind", ink.number(0, 0), 42);
    }

    /** Each template has contexts of its own, also the one for rows that are the same. */
    private static void templatesApart() {
        InkCoder ink = new InkCoder();
        PlainCoder plain = new PlainCoder();
        ink.begin(true);
        plain.beginWriting();
        String[] one = {"1"};
        Sight.set(ink, 0, one);
        for (int i = 0; i < 30; i++) {
            ink.region(0, 1 + i % 3, i % 2 == 0);
            writeRegion(plain, one, 1 + i % 3, i % 2 == 0);
        }
        ink.end();
        Check.sameBytes("templates one after another", ink, plain);
    }

    /** "points outside are 0": boards with sides of 1 and 24 that are full of 1s, or have some on their edges. */
    private static void smallestAndLargest() {
        int[][] sides = {{1, 1}, {24, 24}, {1, 24}, {24, 1}, {2, 3}, {23, 24}};
        for (int[] side : sides) {
            for (int template = 1; template <= 3; template++) {
                Twin twin = new Twin("region of " + side[0] + " times " + side[1] + " by " + template);
                twin.size(0, side[0], side[1]);
                twin.size(1, side[0], side[1]);
                twin.begin(true);
                // all 1, then but the corners, then the corners alone
                twin.draw(0, 1, 0, 0, 3);
                for (int i = 0; i < 3; i++) {
                    twin.region(0, template, true);
                    twin.region(0, template, false);
                    if (i == 0) {
                        flipCorners(twin, side[0], side[1]);
                    } else if (i == 1) {
                        twin.draw(0, 1, 0, 0, 3);
                    }
                }
                twin.end();
                twin.bytesFrom(0);
                twin.begin(false);
                for (int i = 0; i < 3; i++) {
                    twin.region(1, template, true);
                    twin.board(1, 0);
                    twin.region(1, template, false);
                    twin.board(1, 0);
                }
                twin.point(1, side[0] - 1, side[1] - 1);
            }
        }
    }

    private static void flipCorners(Twin twin, int w, int h) {
        twin.flip(0, 0, 0);
        twin.flip(0, w - 1, 0);
        twin.flip(0, 0, h - 1);
        twin.flip(0, w - 1, h - 1);
    }

    /** From none to all 24 of them; the first row counts when it is of 0s. */
    private static void countsOfSameRows() {
        InkCoder ink = new InkCoder();
        ink.size(0, 24, 24);
        ink.begin(true);
        Check.due("all are 0", ink.region(0, 3, true), 24);
        Check.due("all are 0, not typical", ink.region(0, 3, false), 0);
        ink.flip(0, 23, 23);
        Check.due("but the last one", ink.region(0, 3, true), 23);
        ink.flip(0, 23, 23);
        ink.flip(0, 0, 0);
        Check.due("but the first one, so the second one, too", ink.region(0, 3, true), 22);
        ink.size(1, 24, 24);
        for (int y = 0; y < 24; y++) {
            ink.flip(1, y % 2, y);
        }
        Check.due("none", ink.region(1, 3, true), 0);
        ink.size(1, 24, 24);
        ink.size(2, 24, 24);
        ink.draw(1, 2, 0, 0, 3);
        Check.due("all are 1", ink.region(1, 3, true), 23);
        ink.size(3, 1, 1);
        Check.due("one point 0", ink.region(3, 3, true), 1);
        ink.flip(3, 0, 0);
        Check.due("one point 1", ink.region(3, 3, true), 0);
    }

    /** What stood on the board is for nothing, but the size. */
    private static void sameRowsAreReadFromAbove() {
        InkCoder ink = new InkCoder();
        Sight.set(ink, 0, "0000", "0000", "1010", "1010", "0101", "0101");
        ink.begin(true);
        ink.region(0, 1, true);
        ink.end();
        Sight.set(ink, 1, "1111", "0110", "1111", "0000", "1010", "1010");
        ink.begin(false);
        Check.due("read over something else", ink.region(1, 1, true), 4);
        Check.due("read over something else: rows", Sight.rows(ink, 1), Sight.rows(ink, 0));
    }

    private static void regionWrong() {
        InkCoder ink = new InkCoder();
        Check.wrongState("region when idle", () -> ink.region(9, 9, true));
        ink.begin(true);
        Check.outOfBounds("region(4, 9)", () -> ink.region(4, 9, true));
        Check.outOfBounds("region(-1, 1)", () -> ink.region(-1, 1, false));
        Check.wrongArgument("region(0, 0)", () -> ink.region(0, 0, false));
        Check.wrongArgument("region(0, 4)", () -> ink.region(0, 4, false));
        Check.wrongArgument("region(3, -1)", () -> ink.region(3, -1, true));
        Check.due("refused ones write nothing", ink.end(), 4);
        Check.wrongState("region when idle again", () -> ink.region(0, 1, true));
    }

    private static int writeRefinement(PlainCoder plain, String[] rows, String[] other, int dx, int dy) {
        int[] here = {-1, -1, 0, -1, 1, -1, -1, 0};
        int[] there = {0, -1, -1, 0, 0, 0, 1, 0, 0, 1, 1, 1};
        int unlike = 0;
        for (int y = 0; y < rows.length; y++) {
            for (int x = 0; x < rows[0].length(); x++) {
                StringBuilder context = new StringBuilder("refine:");
                for (int i = 0; i < here.length; i += 2) {
                    context.append(at(rows, x + here[i], y + here[i + 1]));
                }
                for (int i = 0; i < there.length; i += 2) {
                    context.append(at(other, x - dx + there[i], y - dy + there[i + 1]));
                }
                plain.write(context.toString(), at(rows, x, y));
                unlike += at(rows, x, y) == at(other, x - dx, y - dy) ? 0 : 1;
            }
        }
        return unlike;
    }

    private static void refineBytes() {
        String[] other = {"01100", "10110", "11110", "10011"};
        int[][] shifts = {{0, 0}, {1, 2}, {-2, -1}, {6, 5}, {-4, 3}, {24, -24}, {-24, 24}, {7, 0}, {-5, 0}, {0, 6}};
        InkCoder ink = new InkCoder();
        PlainCoder plain = new PlainCoder();
        Sight.set(ink, 0, LETTER);
        Sight.set(ink, 1, other);
        ink.begin(true);
        plain.beginWriting();
        int[] due = new int[shifts.length];
        for (int i = 0; i < shifts.length; i++) {
            due[i] = writeRefinement(plain, LETTER, other, shifts[i][0], shifts[i][1]);
            Check.due("refine by " + shifts[i][0] + ", " + shifts[i][1], ink.refine(0, 1, shifts[i][0], shifts[i][1]),
                    due[i]);
        }
        ink.end();
        Check.sameBytes("refine", ink, plain);
        ink.begin(false);
        for (int i = 0; i < shifts.length; i++) {
            ink.size(2, 7, 6);
            ink.flip(2, i % 7, i % 6);
            Check.due("refine: read", ink.refine(2, 1, shifts[i][0], shifts[i][1]), due[i]);
            Check.due("refine: points", ink.board(2, 0), ink.board(0, 0));
        }
        Check.due("refine: read rows", Sight.rows(ink, 2), Sight.rows(ink, 0));
    }

    private static void refineShifts() {
        InkCoder ink = new InkCoder();
        Sight.set(ink, 0, "00000", "00010", "00000");
        Sight.set(ink, 1, "100");
        ink.begin(true);
        Check.due("the same but for the shift", ink.refine(0, 1, 3, 1), 0);
        Check.due("not shifted", ink.refine(0, 1, 0, 0), 2);
        Check.due("shifted out of the board", ink.refine(0, 1, -1, 0), 1);
        Check.due("far away", ink.refine(0, 1, 24, 24), 1);
    }

    /** The other board has 24 times 24 points that are 1, the board has 0s: only where they overlap are they unlike. */
    private static void refineOverTheEdges() {
        int[][] rows = {{0, 0, 576}, {23, 0, 24}, {24, 0, 0}, {-23, 0, 24}, {-24, 0, 0}, {0, 23, 24}, {0, 24, 0},
            {0, -23, 24}, {0, -24, 0}, {23, 23, 1}, {-23, 23, 1}, {23, -23, 1}, {-23, -23, 1}, {24, 24, 0},
            {-24, -24, 0}, {1, 0, 552}, {0, -1, 552}, {1, 1, 529}};
        Twin twin = new Twin("refine over the edges");
        twin.size(0, 24, 24);
        twin.size(1, 24, 24);
        twin.draw(1, 0, 0, 0, 3);
        twin.begin(true);
        for (int[] row : rows) {
            Check.due("unlike by " + row[0] + ", " + row[1], twin.refine(0, 1, row[0], row[1]), row[2]);
        }
        twin.flip(0, 0, 0);
        twin.flip(0, 23, 23);
        for (int[] row : rows) {
            twin.refine(0, 1, row[0], row[1]);
            twin.refine(1, 0, row[0], row[1]);
        }
        twin.end();
        twin.bytesFrom(0);
        twin.begin(false);
        for (int[] row : rows) {
            Check.due("unlike, read, by " + row[0] + ", " + row[1], twin.refine(0, 1, row[0], row[1]), row[2]);
        }
    }

    private static void refineWithOtherSizes() {
        int[][] sides = {{1, 1, 24, 24}, {24, 24, 1, 1}, {1, 24, 24, 1}, {24, 1, 1, 24}, {5, 3, 5, 3}};
        int[] shifts = {-24, -23, -1, 0, 1, 23, 24};
        for (int[] side : sides) {
            Twin twin = new Twin("refine " + side[0] + " times " + side[1] + " by " + side[2] + " times " + side[3]);
            twin.size(0, side[0], side[1]);
            twin.size(1, side[2], side[3]);
            twin.size(2, side[2], side[3]);
            twin.draw(1, 2, 0, 0, 3);
            twin.flip(0, side[0] - 1, 0);
            twin.flip(0, 0, side[1] - 1);
            twin.begin(true);
            for (int dx : shifts) {
                for (int dy : shifts) {
                    twin.refine(0, 1, dx, dy);
                }
            }
            twin.end();
            twin.bytesFrom(0);
            twin.begin(false);
            for (int dx : shifts) {
                for (int dy : shifts) {
                    twin.refine(0, 1, dx, dy);
                }
            }
            twin.board(0, 0);
        }
    }

    private static void refineWrong() {
        InkCoder ink = new InkCoder();
        Check.wrongState("refine when idle", () -> ink.refine(9, 9, 99, 99));
        ink.begin(true);
        Check.outOfBounds("refine(4, 0)", () -> ink.refine(4, 0, 99, 0));
        Check.outOfBounds("refine(0, 4)", () -> ink.refine(0, 4, 0, 99));
        Check.outOfBounds("refine(-1, -1)", () -> ink.refine(-1, -1, 0, 0));
        Check.wrongArgument("refine(2, 2)", () -> ink.refine(2, 2, 0, 0));
        Check.wrongArgument("refine by 25, 0", () -> ink.refine(0, 1, 25, 0));
        Check.wrongArgument("refine by -25, 0", () -> ink.refine(0, 1, -25, 0));
        Check.wrongArgument("refine by 0, 25", () -> ink.refine(0, 1, 0, 25));
        Check.wrongArgument("refine by 0, -25", () -> ink.refine(0, 1, 0, -25));
        Check.due("refused ones write nothing", ink.end(), 4);
    }
}
