/** Promises 1 to 6: a new object, size, flip, point, draw, board. */
public final class BoardsTest {
    public static void main(String[] args) {
        newObject();
        size();
        flip();
        point();
        draw();
        drawAtTheEdges();
        drawKeepsWhatIsBeside();
        drawOverEachEdge();
        board();
        Check.done();
    }

    private static void newObject() {
        InkCoder ink = new InkCoder();
        for (int b = 0; b < 4; b++) {
            Check.due("new: points that are 1", ink.board(b, 0), 0);
            Check.due("new: width", ink.board(b, 1), 1);
            Check.due("new: height", ink.board(b, 2), 1);
            Check.due("new: point", ink.point(b, 0, 0), false);
        }
        Check.due("new: state", ink.state(), 0);
        Check.due("new: length", ink.length(), 0);
        Check.outOfBounds("new: code(0)", () -> ink.code(0));
        Check.outOfBounds("new: symbol(0, -1, 0)", () -> ink.symbol(0, -1, 0));
        Check.outOfBounds("new: marked(0, 0)", () -> ink.marked(0, 0));
        Check.outOfBounds("new: mark(0, 0, 0)", () -> ink.mark(0, 0, 0));
        Check.wrongState("new: end()", ink::end);
    }

    private static void size() {
        InkCoder ink = new InkCoder();
        ink.size(3, 24, 24);
        ink.flip(3, 23, 23);
        Check.due("size: point", ink.point(3, 23, 23), true);
        ink.size(3, 24, 24);
        Check.due("size: the same one once more", ink.board(3, 0), 0);
        ink.flip(3, 7, 5);
        ink.size(3, 4, 3);
        ink.size(3, 24, 24);
        Check.due("size: nothing comes back", ink.board(3, 0), 0);
        ink.flip(3, 1, 2);
        Check.outOfBounds("size(4, 1, 1)", () -> ink.size(4, 1, 1));
        Check.outOfBounds("size(-1, 1, 1)", () -> ink.size(-1, 1, 1));
        Check.outOfBounds("size(4, 0, 25)", () -> ink.size(4, 0, 25));
        int[][] wrong = {{0, 1}, {1, 0}, {25, 1}, {1, 25}, {-1, 3}, {3, Integer.MIN_VALUE}, {Integer.MAX_VALUE, 3}};
        for (int[] sides : wrong) {
            Check.wrongArgument("size(3, " + sides[0] + ", " + sides[1] + ")", () -> ink.size(3, sides[0], sides[1]));
        }
        int seen = ink.board(3, 0) * 10000 + ink.board(3, 1) * 100 + ink.board(3, 2);
        Check.due("size: refused ones change nothing", seen, 12424);
        ink.begin(true);
        ink.size(3, 2, 1);
        Check.due("size: while writing", ink.board(3, 1), 2);
    }

    private static void flip() {
        InkCoder ink = new InkCoder();
        ink.size(1, 3, 2);
        Check.due("flip", ink.flip(1, 2, 1), true);
        Check.due("flip: it is 1", ink.point(1, 2, 1), true);
        Check.due("flip: others are 0", ink.board(1, 0), 1);
        Check.due("flip: back", ink.flip(1, 2, 1), false);
        Check.due("flip: it is 0", ink.point(1, 2, 1), false);
        int[][] wrong = {{1, 3, 0}, {1, 0, 2}, {1, -1, 0}, {1, 0, -1}, {4, 0, 0}, {-1, 0, 0}, {0, 1, 0},
            {1, Integer.MIN_VALUE, 0}, {1, 0, Integer.MAX_VALUE}};
        for (int[] w : wrong) {
            Check.outOfBounds("flip(" + w[0] + ", " + w[1] + ", " + w[2] + ")", () -> ink.flip(w[0], w[1], w[2]));
        }
    }

    private static void point() {
        InkCoder ink = new InkCoder();
        ink.size(2, 24, 2);
        ink.flip(2, 23, 1);
        ink.flip(2, 0, 0);
        Check.due("point", ink.point(2, 23, 1) && ink.point(2, 0, 0), true);
        int[][] none = {{2, 24, 1}, {2, 23, 2}, {2, -1, 0}, {2, 0, -1}, {4, 0, 0}, {-1, 0, 0}, {2, 22, 1}, {2, 32, 0},
            {Integer.MIN_VALUE, 0, 0}, {2, Integer.MIN_VALUE, Integer.MAX_VALUE}};
        for (int[] n : none) {
            Check.due("point(" + n[0] + ", " + n[1] + ", " + n[2] + ")", ink.point(n[0], n[1], n[2]), false);
        }
    }

    /** A row of four points, each pair of 0 and 1 once: 0011 below, 0101 above it. */
    private static InkCoder pairs() {
        InkCoder ink = new InkCoder();
        ink.size(0, 4, 1);
        ink.flip(0, 2, 0);
        ink.flip(0, 3, 0);
        ink.size(1, 4, 1);
        ink.flip(1, 1, 0);
        ink.flip(1, 3, 0);
        return ink;
    }

    private static String row(InkCoder ink, int board, int y) {
        StringBuilder text = new StringBuilder();
        for (int x = 0; x < ink.board(board, 1); x++) {
            text.append(ink.point(board, x, y) ? '1' : '0');
        }
        return text.toString();
    }

    private static void draw() {
        String[] due = {"0111", "0001", "0110", "1001", "0101"};
        for (int operation = 0; operation < 5; operation++) {
            InkCoder ink = pairs();
            ink.draw(0, 1, 0, 0, operation);
            Check.due("draw by " + operation, row(ink, 0, 0), due[operation]);
            Check.due("draw by " + operation + ": what was drawn", row(ink, 1, 0), "0101");
        }
        InkCoder ink = pairs();
        int[][] outside = {{4, 0}, {0, 4}, {-1, 0}, {0, -1}, {4, 4}};
        for (int[] o : outside) {
            Check.outOfBounds("draw(" + o[0] + ", " + o[1] + ")", () -> ink.draw(o[0], o[1], 101, 0, 9));
        }
        int[][] wrong = {{0, 0, 0, 0, 0}, {0, 1, 0, 0, 5}, {0, 1, 0, 0, -1}, {0, 1, 101, 0, 0}, {0, 1, -101, 0, 0},
            {0, 1, 0, 101, 0}, {0, 1, 0, -101, 0}, {0, 1, Integer.MIN_VALUE, 0, 0}};
        for (int[] w : wrong) {
            Check.wrongArgument("draw(" + w[0] + ", " + w[1] + ", " + w[2] + ", " + w[3] + ", " + w[4] + ")",
                    () -> ink.draw(w[0], w[1], w[2], w[3], w[4]));
        }
        Check.due("draw: refused ones change nothing", row(ink, 0, 0), "0011");
    }

    private static void drawAtTheEdges() {
        InkCoder ink = pairs();
        ink.draw(0, 1, 2, 0, 4);
        Check.due("draw to the right", row(ink, 0, 0), "0001");
        ink.draw(0, 1, -2, 0, 3);
        Check.due("draw to the left", row(ink, 0, 0), "1001");
        ink.draw(0, 1, -3, 0, 2);
        Check.due("draw one column", row(ink, 0, 0), "0001");
        int[][] beside = {{4, 0}, {-4, 0}, {0, 1}, {0, -1}, {100, 0}, {-100, 0}, {0, 100}, {0, -100}, {32, 0},
            {-32, 0}};
        for (int[] b : beside) {
            ink.draw(0, 1, b[0], b[1], 3);
            Check.due("draw beside, at " + b[0] + ", " + b[1], row(ink, 0, 0), "0001");
        }
        ink.size(2, 24, 24);
        ink.size(3, 24, 24);
        ink.draw(3, 2, 0, 0, 3);
        Check.due("the same: all are 1", ink.board(3, 0), 576);
        ink.draw(2, 3, 23, -23, 0);
        Check.due("the lower left point at the upper right", ink.point(2, 23, 0) ? ink.board(2, 0) : 0, 1);
        ink.draw(2, 3, -23, 23, 0);
        Check.due("the upper right point at the lower left", ink.point(2, 0, 23) ? ink.board(2, 0) : 0, 2);
        ink.size(3, 1, 1);
        ink.draw(3, 2, -23, 0, 4);
        Check.due("on the smallest board", ink.board(3, 0), 1);
    }

    /** Only points that lie under one of the picture's change, whatever the operation. */
    private static void drawKeepsWhatIsBeside() {
        String[][] due = {
            {"1010", "0111", "1110", "0101"},
            {"1010", "0001", "1000", "0101"},
            {"1010", "0111", "1110", "0101"},
            {"1010", "0001", "1000", "0101"},
            {"1010", "0011", "1100", "0101"}
        };
        for (int operation = 0; operation < 5; operation++) {
            InkCoder ink = new InkCoder();
            Sight.set(ink, 0, "1010", "0101", "1010", "0101");
            Sight.set(ink, 1, "01", "10");
            ink.draw(0, 1, 1, 1, operation);
            String rows = String.join("\n", due[operation]) + "\n";
            Check.due("draw in the midst by " + operation, Sight.rows(ink, 0), rows);
        }
    }

    /** A picture of 3 times 2 on a board of 4 times 5, from just beside it to just beside it: what is under it. */
    private static void drawOverEachEdge() {
        int[] columns = {0, 1, 2, 3, 3, 2, 1, 0};
        int[] rows = {0, 1, 2, 2, 2, 2, 1, 0};
        for (int i = 0; i < columns.length; i++) {
            for (int j = 0; j < rows.length; j++) {
                InkCoder ink = new InkCoder();
                ink.size(0, 4, 5);
                ink.size(1, 3, 2);
                ink.draw(0, 1, i - 3, j - 2, 3);
                Check.due("drawn at " + (i - 3) + ", " + (j - 2), ink.board(0, 0), columns[i] * rows[j]);
                if (columns[i] * rows[j] > 0) {
                    Check.due("its first point", ink.point(0, Math.max(0, i - 3), Math.max(0, j - 2)), true);
                }
            }
        }
    }

    private static void board() {
        InkCoder ink = new InkCoder();
        ink.size(2, 24, 3);
        ink.flip(2, 0, 0);
        ink.flip(2, 23, 2);
        ink.flip(2, 5, 1);
        Check.due("board: points", ink.board(2, 0), 3);
        Check.due("board: width", ink.board(2, 1), 24);
        Check.due("board: height", ink.board(2, 2), 3);
        Check.outOfBounds("board(4, 0)", () -> ink.board(4, 0));
        Check.outOfBounds("board(-1, 7)", () -> ink.board(-1, 7));
        Check.wrongArgument("board(2, 3)", () -> ink.board(2, 3));
        Check.wrongArgument("board(2, -1)", () -> ink.board(2, -1));
        ink.size(0, 24, 24);
        ink.size(1, 24, 24);
        Check.due("board: no points", ink.board(0, 0), 0);
        ink.draw(0, 1, 0, 0, 3);
        Check.due("board: all points", ink.board(0, 0), 576);
    }
}
