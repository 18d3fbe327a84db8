/** Promises 17 to 21: learn, forget, mark, symbol, marked. */
public final class SymbolsTest {
    public static void main(String[] args) {
        learn();
        learnTheLargest();
        mark();
        markBesideOneMark();
        forget();
        symbol();
        marked();
        Check.done();
    }

    private static void learn() {
        InkCoder ink = new InkCoder();
        Check.outOfBounds("learn(4)", () -> ink.learn(4));
        Check.outOfBounds("learn(-1)", () -> ink.learn(-1));
        ink.size(1, 24, 2);
        ink.flip(1, 23, 1);
        Check.due("learn", ink.learn(1), 0);
        ink.flip(1, 23, 1);
        ink.size(1, 3, 3);
        Check.due("a symbol stays as it was", ink.symbol(0, 23, 1), 1);
        Check.due("its width", ink.symbol(0, -1, 0), 24);
        for (int i = 1; i < 8; i++) {
            Check.due("learn", ink.learn(i % 4), i);
        }
        Check.unsupported("learn a ninth", () -> ink.learn(1));
        Check.outOfBounds("learn a ninth of no board", () -> ink.learn(4));
        ink.forget();
        Check.due("learn when all are forgotten", ink.learn(1), 0);
        Check.due("the new one", ink.symbol(0, -1, 0), 3);
        ink.begin(true);
        Check.due("learn while writing", ink.learn(0), 1);
    }

    private static void learnTheLargest() {
        InkCoder ink = new InkCoder();
        int[][] sides = {{24, 24}, {1, 24}, {24, 1}, {1, 1}};
        for (int k = 0; k < sides.length; k++) {
            int w = sides[k][0];
            int h = sides[k][1];
            ink.size(0, w, h);
            ink.flip(0, w - 1, h - 1);
            Check.due("learn", ink.learn(0), k);
            Check.due("width", ink.symbol(k, -1, 99), w);
            Check.due("height", ink.symbol(k, -2, -99), h);
            Check.due("the last point", ink.symbol(k, w - 1, h - 1), 1);
            int symbol = k;
            Check.outOfBounds("a column more", () -> ink.symbol(symbol, w, h - 1));
            Check.outOfBounds("a row more", () -> ink.symbol(symbol, w - 1, h));
        }
        Check.due("the board stays", ink.board(0, 0), 1);
        ink.size(0, 24, 24);
        ink.learn(0);
        ink.forget();
        ink.learn(0);
        Check.due("a symbol in the place of a forgotten one has its own points", ink.symbol(0, 23, 23), 0);
    }

    private static void mark() {
        InkCoder ink = new InkCoder();
        Check.outOfBounds("mark(0, ..) when there is none", () -> ink.mark(0, 999, 0));
        ink.learn(0);
        Check.due("mark", ink.mark(0, -100, -100), 1);
        Check.due("mark", ink.mark(0, 100, -100), 2);
        Check.wrongArgument("mark above the latest", () -> ink.mark(0, 0, -101));
        Check.due("mark", ink.mark(0, 0, 5), 3);
        Check.wrongArgument("mark above the latest", () -> ink.mark(0, 0, 4));
        Check.due("mark", ink.mark(0, 0, 5), 4);
        int[][] wrong = {{101, 6}, {-101, 6}, {0, 101}, {0, -101}, {Integer.MIN_VALUE, 6}, {0, Integer.MAX_VALUE}};
        for (int[] w : wrong) {
            Check.wrongArgument("mark(0, " + w[0] + ", " + w[1] + ")", () -> ink.mark(0, w[0], w[1]));
        }
        Check.outOfBounds("mark(1, ..)", () -> ink.mark(1, 0, 0));
        Check.outOfBounds("mark(-1, ..)", () -> ink.mark(-1, 101, 0));
        for (int i = 5; i <= 12; i++) {
            Check.due("mark", ink.mark(0, 1, 100), i);
        }
        Check.unsupported("mark a thirteenth", () -> ink.mark(0, 1, 100));
        Check.wrongArgument("mark a thirteenth above", () -> ink.mark(0, 1, 99));
        Check.outOfBounds("mark a thirteenth of no symbol", () -> ink.mark(8, 1, 100));
        Check.due("the last one", ink.marked(11, 2), 100);
    }

    /** "t is less than the latest mark's", when that is the only one; with none there is no such bound. */
    private static void markBesideOneMark() {
        int[] all = {100, 5, 0, -99};
        for (int t : all) {
            InkCoder ink = new InkCoder();
            ink.learn(0);
            Check.due("the first mark", ink.mark(0, 0, t), 1);
            Check.wrongArgument("a mark at " + (t - 1) + " behind one at " + t, () -> ink.mark(0, 0, t - 1));
            Check.due("refused: no mark more", Sight.marks(ink), 1);
            Check.due("a mark with the same T", ink.mark(0, 0, t), 2);
        }
        InkCoder ink = new InkCoder();
        ink.learn(0);
        Check.due("the first mark of all", ink.mark(0, -100, -100), 1);
    }

    private static void forget() {
        InkCoder ink = new InkCoder();
        ink.forget();
        ink.learn(0);
        ink.mark(0, 1, 50);
        ink.put(9);
        ink.forget();
        Check.outOfBounds("symbol", () -> ink.symbol(0, -1, 0));
        Check.outOfBounds("marked", () -> ink.marked(0, 0));
        Check.due("CODE stays", ink.length(), 1);
        ink.learn(0);
        Check.due("mark: no latest one", ink.mark(0, 1, -50), 1);
        ink.begin(false);
        ink.forget();
        Check.due("state", ink.state(), 2);
        Check.outOfBounds("symbol", () -> ink.symbol(0, 0, 0));
    }

    private static void symbol() {
        InkCoder ink = new InkCoder();
        ink.size(0, 4, 3);
        ink.flip(0, 1, 2);
        ink.learn(0);
        ink.learn(1);
        Check.due("width", ink.symbol(0, -1, -77), 4);
        Check.due("height", ink.symbol(0, -2, 77), 3);
        Check.due("width of the next", ink.symbol(1, -1, 0), 1);
        for (int y = 0; y < 3; y++) {
            for (int x = 0; x < 4; x++) {
                Check.due("symbol(0, " + x + ", " + y + ")", ink.symbol(0, x, y), x == 1 && y == 2 ? 1 : 0);
            }
        }
        int[][] wrong = {{0, 4, 0}, {0, 0, 3}, {0, -3, 0}, {0, 0, -1}, {2, -1, 0}, {-1, -1, 0}, {-1, 0, 0}, {8, 0, 0},
            {1, 1, 0}, {0, Integer.MIN_VALUE, 0}, {Integer.MAX_VALUE, -2, 0}};
        for (int[] w : wrong) {
            Check.outOfBounds("symbol(" + w[0] + ", " + w[1] + ", " + w[2] + ")", () -> ink.symbol(w[0], w[1], w[2]));
        }
    }

    private static void marked() {
        InkCoder ink = new InkCoder();
        ink.learn(0);
        ink.learn(0);
        ink.mark(1, -7, 3);
        ink.mark(0, 9, 4);
        Check.due("marked(0, 0)", ink.marked(0, 0), 1);
        Check.due("marked(0, 1)", ink.marked(0, 1), -7);
        Check.due("marked(0, 2)", ink.marked(0, 2), 3);
        Check.due("marked(1, 0)", ink.marked(1, 0), 0);
        Check.due("marked(1, 1)", ink.marked(1, 1), 9);
        Check.due("marked(1, 2)", ink.marked(1, 2), 4);
        int[][] wrong = {{2, 0}, {-1, 0}, {0, 3}, {0, -1}, {12, 0}, {Integer.MIN_VALUE, Integer.MAX_VALUE}};
        for (int[] w : wrong) {
            Check.outOfBounds("marked(" + w[0] + ", " + w[1] + ")", () -> ink.marked(w[0], w[1]));
        }
    }
}
