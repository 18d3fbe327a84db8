import java.util.ArrayList;
import java.util.List;

/** The document's whole class once more, in its plainest form; points are held one by one, and nothing is shared. */
final class PlainModel {
    static final class Broken extends Exception {
        private static final long serialVersionUID = 1L;
    }

    final PlainCoder coder = new PlainCoder();
    final int[][][] boards = new int[4][1][1];
    final List<int[][]> symbols = new ArrayList<>();
    final List<int[]> marks = new ArrayList<>();
    int state = 0;

    private static int at(int[][] picture, int x, int y) {
        return y >= 0 && y < picture.length && x >= 0 && x < picture[0].length ? picture[y][x] : 0;
    }

    private static void index(boolean fine) {
        if (!fine) {
            throw new IndexOutOfBoundsException();
        }
    }

    private static void argument(boolean fine) {
        if (!fine) {
            throw new IllegalArgumentException();
        }
    }

    private static void supported(boolean fine) {
        if (!fine) {
            throw new UnsupportedOperationException();
        }
    }

    private void busy() {
        if (state == 0) {
            throw new IllegalStateException();
        }
    }

    private static boolean in(int v, int low, int high) {
        return low <= v && v <= high;
    }

    void size(int board, int w, int h) {
        index(in(board, 0, 3));
        argument(in(w, 1, 24) && in(h, 1, 24));
        boards[board] = new int[h][w];
    }

    boolean flip(int board, int x, int y) {
        index(in(board, 0, 3) && in(y, 0, boards[board].length - 1) && in(x, 0, boards[board][0].length - 1));
        boards[board][y][x] ^= 1;
        return boards[board][y][x] == 1;
    }

    boolean point(int board, int x, int y) {
        return in(board, 0, 3) && at(boards[board], x, y) == 1;
    }

    void draw(int board, int other, int x, int y, int operation) {
        index(in(board, 0, 3) && in(other, 0, 3));
        argument(board != other && in(operation, 0, 4) && in(x, -100, 100) && in(y, -100, 100));
        paint(boards[board], boards[other], x, y, operation);
    }

    private static void paint(int[][] board, int[][] picture, int x, int y, int operation) {
        for (int v = 0; v < picture.length; v++) {
            for (int u = 0; u < picture[0].length; u++) {
                if (in(y + v, 0, board.length - 1) && in(x + u, 0, board[0].length - 1)) {
                    int old = board[y + v][x + u];
                    int one = picture[v][u];
                    int[] results = {Math.max(old, one), old * one, old == one ? 0 : 1, old == one ? 1 : 0, one};
                    board[y + v][x + u] = results[operation];
                }
            }
        }
    }

    int board(int board, int part) {
        index(in(board, 0, 3));
        argument(in(part, 0, 2));
        int sum = 0;
        for (int[] row : boards[board]) {
            for (int point : row) {
                sum += point;
            }
        }
        return part == 0 ? sum : part == 1 ? boards[board][0].length : boards[board].length;
    }

    boolean put(int v) {
        if (state != 0 || coder.code.size() == 600) {
            return false;
        }
        coder.code.add(v & 255);
        return true;
    }

    boolean cut(int n) {
        if (state != 0 || n < 0 || n > coder.code.size()) {
            return false;
        }
        while (coder.code.size() > n) {
            coder.code.remove(coder.code.size() - 1);
        }
        return true;
    }

    int code(int i) {
        index(in(i, 0, coder.code.size() - 1));
        return coder.code.get(i);
    }

    void begin(boolean writing) {
        if (writing) {
            coder.beginWriting();
        } else {
            coder.beginReading();
        }
        state = writing ? 1 : 2;
    }

    int end() {
        busy();
        if (state == 1) {
            coder.endWriting();
        }
        state = 0;
        return coder.code.size();
    }

    private int decide(String context, int decision) {
        if (state == 1) {
            coder.write(context, decision);
            return decision;
        }
        return coder.read(context);
    }

    static String around(int[][] p, int template, int x, int y) {
        int[][] spans = template == 1 ? new int[][] {{-2, -1, 2}, {-1, -2, 3}, {0, -3, -1}}
                : template == 2 ? new int[][] {{-2, -1, 1}, {-1, -2, 2}, {0, -2, -1}}
                : new int[][] {{-1, -3, 2}, {0, -4, -1}};
        StringBuilder text = new StringBuilder("template " + template + " ");
        for (int[] span : spans) {
            for (int dx = span[1]; dx <= span[2]; dx++) {
                text.append(at(p, x + dx, y + span[0]));
            }
        }
        return text.toString();
    }

    private int codeRegion(int[][] p, int template, boolean typical) {
        int same = 0;
        for (int y = 0; y < p.length; y++) {
            boolean copied = false;
            if (typical) {
                int equal = 1;
                for (int x = 0; x < p[0].length; x++) {
                    equal = at(p, x, y) == at(p, x, y - 1) ? equal : 0;
                }
                copied = decide("typical " + template, equal) == 1;
            }
            same += copied ? 1 : 0;
            for (int x = 0; x < p[0].length; x++) {
                p[y][x] = copied ? at(p, x, y - 1) : decide(around(p, template, x, y), p[y][x]);
            }
        }
        return same;
    }

    int region(int board, int template, boolean typical) {
        busy();
        index(in(board, 0, 3));
        argument(in(template, 1, 3));
        return codeRegion(boards[board], template, typical);
    }

    int refine(int board, int other, int dx, int dy) {
        busy();
        index(in(board, 0, 3) && in(other, 0, 3));
        argument(board != other && in(dx, -24, 24) && in(dy, -24, 24));
        int[][] p = boards[board];
        int[][] o = boards[other];
        int unlike = 0;
        for (int y = 0; y < p.length; y++) {
            for (int x = 0; x < p[0].length; x++) {
                int u = x - dx;
                int v = y - dy;
                String context = "refine " + at(p, x - 1, y - 1) + at(p, x, y - 1) + at(p, x + 1, y - 1)
                        + at(p, x - 1, y) + at(o, u, v - 1) + at(o, u - 1, v) + at(o, u, v) + at(o, u + 1, v)
                        + at(o, u, v + 1) + at(o, u + 1, v + 1);
                p[y][x] = decide(context, p[y][x]);
                unlike += p[y][x] == at(o, u, v) ? 0 : 1;
            }
        }
        return unlike;
    }

    int number(int kind, int v) {
        busy();
        index(in(kind, 0, 2));
        argument(state == 2 || v == InkCoder.NO || in(v, -1000000, 1000000));
        if (state == 1) {
            coder.writeNumber(kind, v == InkCoder.NO ? null : Long.valueOf(v));
            return v;
        }
        Integer read = coder.readNumber(kind);
        return read == null ? InkCoder.NO : read;
    }

    int learn(int board) {
        index(in(board, 0, 3));
        supported(symbols.size() < 8);
        int[][] copy = new int[boards[board].length][];
        for (int y = 0; y < copy.length; y++) {
            copy[y] = boards[board][y].clone();
        }
        symbols.add(copy);
        return symbols.size() - 1;
    }

    void forget() {
        symbols.clear();
        marks.clear();
    }

    int mark(int symbol, int s, int t) {
        index(in(symbol, 0, symbols.size() - 1));
        argument(in(s, -100, 100) && in(t, -100, 100));
        argument(marks.isEmpty() || marks.get(marks.size() - 1)[2] <= t);
        supported(marks.size() < 12);
        marks.add(new int[] {symbol, s, t});
        return marks.size();
    }

    int symbol(int symbol, int x, int y) {
        index(in(symbol, 0, symbols.size() - 1));
        int[][] p = symbols.get(symbol);
        if (x == -1) {
            return p[0].length;
        }
        if (x == -2) {
            return p.length;
        }
        index(in(x, 0, p[0].length - 1) && in(y, 0, p.length - 1));
        return p[y][x];
    }

    int marked(int k, int part) {
        index(in(k, 0, marks.size() - 1) && in(part, 0, 2));
        return marks.get(k)[part];
    }

    int dictionary() {
        busy();
        if (state == 1) {
            writeDictionary();
            return symbols.size();
        }
        symbols.clear();
        marks.clear();
        try {
            readDictionary();
            return symbols.size();
        } catch (Broken e) {
            symbols.clear();
            state = 0;
            return InkCoder.BROKEN;
        }
    }

    private void writeDictionary() {
        coder.writeNumber(3, (long) symbols.size());
        int h = 0;
        int k = 0;
        while (k < symbols.size()) {
            coder.writeNumber(4, (long) symbols.get(k).length - h);
            h = symbols.get(k).length;
            int w = 0;
            while (k < symbols.size() && symbols.get(k).length == h) {
                int[][] symbol = symbols.get(k);
                coder.writeNumber(5, (long) symbol[0].length - w);
                w = symbol[0].length;
                codeRegion(symbol, 2, false);
                k++;
            }
            coder.writeNumber(5, null);
        }
    }

    private static void sound(boolean fine) throws Broken {
        if (!fine) {
            throw new Broken();
        }
    }

    private void readDictionary() throws Broken {
        Integer count = coder.readNumber(3);
        sound(count != null && in(count, 0, 8));
        int h = 0;
        while (symbols.size() < count) {
            Integer higher = coder.readNumber(4);
            sound(higher != null);
            h += higher;
            sound(in(h, 1, 24));
            int w = 0;
            Integer wider = coder.readNumber(5);
            sound(wider != null);
            while (wider != null) {
                sound(symbols.size() < count);
                w += wider;
                sound(in(w, 1, 24));
                int[][] symbol = new int[h][w];
                codeRegion(symbol, 2, false);
                symbols.add(symbol);
                wider = coder.readNumber(5);
            }
        }
    }

    int text(int board, int corner, boolean turned, int operation) {
        busy();
        index(in(board, 0, 3));
        argument(in(corner, 0, 3) && in(operation, 0, 4));
        if (state == 1) {
            writeText(corner, turned);
        } else {
            marks.clear();
            try {
                readText(corner, turned);
            } catch (Broken e) {
                marks.clear();
                state = 0;
                return InkCoder.BROKEN;
            }
        }
        for (int[] mark : marks) {
            int[][] symbol = symbols.get(mark[0]);
            int x = turned ? mark[2] : mark[1];
            int y = turned ? mark[1] : mark[2];
            x -= corner == 2 || corner == 3 ? symbol[0].length - 1 : 0;
            y -= corner == 0 || corner == 2 ? symbol.length - 1 : 0;
            paint(boards[board], symbol, x, y, operation);
        }
        return marks.size();
    }

    private int ahead(int[][] symbol, int corner, boolean turned) {
        if (!turned) {
            return corner == 2 || corner == 3 ? symbol[0].length - 1 : 0;
        }
        return corner == 0 || corner == 2 ? symbol.length - 1 : 0;
    }

    private int after(int[][] symbol, int corner, boolean turned) {
        if (!turned) {
            return corner == 0 || corner == 1 ? symbol[0].length - 1 : 0;
        }
        return corner == 1 || corner == 3 ? symbol.length - 1 : 0;
    }

    private void writeText(int corner, boolean turned) {
        coder.writeNumber(3, (long) marks.size());
        int t = 0;
        int f = 0;
        int k = 0;
        while (k < marks.size()) {
            coder.writeNumber(6, (long) marks.get(k)[2] - t);
            t = marks.get(k)[2];
            int c = 0;
            boolean first = true;
            while (k < marks.size() && marks.get(k)[2] == t) {
                int[] mark = marks.get(k);
                int[][] symbol = symbols.get(mark[0]);
                int start = mark[1] - ahead(symbol, corner, turned);
                coder.writeNumber(first ? 7 : 8, (long) start - (first ? f : c));
                f = first ? start : f;
                first = false;
                coder.writeIndex(mark[0]);
                c = mark[1] + after(symbol, corner, turned);
                k++;
            }
            coder.writeNumber(8, null);
        }
    }

    private void readText(int corner, boolean turned) throws Broken {
        Integer count = coder.readNumber(3);
        sound(count != null && in(count, 0, 12));
        int t = 0;
        int f = 0;
        while (marks.size() < count) {
            Integer down = coder.readNumber(6);
            sound(down != null);
            t += down;
            sound(in(t, -100, 100));
            Integer first = coder.readNumber(7);
            sound(first != null);
            f += first;
            int c = f;
            Integer gap = 0;
            while (gap != null) {
                sound(marks.size() < count);
                c += gap;
                int index = coder.readIndex();
                sound(index < symbols.size());
                c += ahead(symbols.get(index), corner, turned);
                sound(in(c, -1000, 1000));
                marks.add(new int[] {index, c, t});
                c += after(symbols.get(index), corner, turned);
                gap = coder.readNumber(8);
            }
        }
    }
}
