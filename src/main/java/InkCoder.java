import java.util.Arrays;

/**
 * Pictures of black and white points, coded by a coder that learns how likely each decision is.
 *
 * What is written and what is read go the same way through the same methods: each is handed the decision that
 * stands in the object and goes on with the one that the coder answers. A writing coder answers what it was
 * handed; a reading one answers what it read, and what it was handed is for nothing.
 */
public final class InkCoder {
    public static final int NO = -2147483648;
    public static final int BROKEN = -1;

    private static final int BOARDS = 4;
    private static final int LONGEST_SIDE = 24;
    private static final int FARTHEST_PLACE = 100;
    private static final int FARTHEST_SHIFT = 24;
    private static final int FARTHEST_READ_PLACE = 1000;
    private static final int LARGEST_NUMBER = 1000000;
    private static final int LAST_OPERATION = 4;
    private static final int LAST_CORNER = 3;
    private static final int LAST_TEMPLATE = 3;
    private static final int SYMBOL_TEMPLATE = 2;

    private static final int IDLE = 0;
    private static final int WRITING = 1;
    private static final int READING = 2;

    private static final int OPEN_KINDS = 3;
    private static final int COUNT = 3;
    private static final int HEIGHT = 4;
    private static final int WIDTH = 5;
    private static final int ROW = 6;
    private static final int FIRST = 7;
    private static final int GAP = 8;

    private final Picture[] boards;
    private final SymbolRow symbols;
    private final MarkRow marks;
    private final ByteRow bytes;
    private final Contexts contexts;
    private final Writer writer;
    private final Reader reader;
    private int mode;

    public InkCoder() {
        boards = new Picture[BOARDS];
        for (int i = 0; i < BOARDS; i++) {
            boards[i] = new Picture();
        }
        symbols = new SymbolRow();
        marks = new MarkRow();
        bytes = new ByteRow();
        contexts = new Contexts();
        writer = new Writer(contexts, bytes);
        reader = new Reader(contexts, bytes);
        mode = IDLE;
    }

    public void size(int board, int w, int h) throws IndexOutOfBoundsException, IllegalArgumentException {
        refuseMissingBoard(board);
        if (!isSide(w) || !isSide(h)) {
            throw new IllegalArgumentException();
        }
        boards[board].blank(w, h);
    }

    public boolean flip(int board, int x, int y) throws IndexOutOfBoundsException {
        refuseMissingBoard(board);
        if (!boards[board].has(x, y)) {
            throw new IndexOutOfBoundsException();
        }
        int turned = 1 - boards[board].at(x, y);
        boards[board].set(x, y, turned);
        return turned == 1;
    }

    public boolean point(int board, int x, int y) {
        return isBoard(board) && boards[board].at(x, y) == 1;
    }

    public void draw(int board, int other, int x, int y, int operation)
            throws IndexOutOfBoundsException, IllegalArgumentException {
        refuseMissingBoard(board);
        refuseMissingBoard(other);
        if (board == other || !within(operation, 0, LAST_OPERATION) || !isPlace(x) || !isPlace(y)) {
            throw new IllegalArgumentException();
        }
        boards[board].stamp(boards[other], x, y, operation);
    }

    public int board(int board, int part) throws IndexOutOfBoundsException, IllegalArgumentException {
        refuseMissingBoard(board);
        switch (part) {
            case 0:
                return boards[board].ones();
            case 1:
                return boards[board].w;
            case 2:
                return boards[board].h;
            default:
                throw new IllegalArgumentException();
        }
    }

    public boolean put(int v) {
        return mode == IDLE && bytes.append(v & 255);
    }

    public boolean cut(int n) {
        if (mode != IDLE || !within(n, 0, bytes.count)) {
            return false;
        }
        bytes.count = n;
        return true;
    }

    public int length() {
        return bytes.count;
    }

    public int code(int i) throws IndexOutOfBoundsException {
        if (!within(i, 0, bytes.count - 1)) {
            throw new IndexOutOfBoundsException();
        }
        return bytes.at(i);
    }

    public void begin(boolean writing) {
        contexts.renew();
        if (writing) {
            writer.start();
        } else {
            reader.start();
        }
        mode = writing ? WRITING : READING;
    }

    public int end() throws IllegalStateException {
        refuseIdle();
        if (mode == WRITING) {
            writer.finish();
        }
        mode = IDLE;
        return bytes.count;
    }

    public int state() {
        return mode;
    }

    public int region(int board, int template, boolean typical)
            throws IllegalStateException, IndexOutOfBoundsException, IllegalArgumentException {
        refuseIdle();
        refuseMissingBoard(board);
        if (!within(template, 1, LAST_TEMPLATE)) {
            throw new IllegalArgumentException();
        }
        return Points.codeRegion(coder(), boards[board], template, typical);
    }

    public int refine(int board, int other, int dx, int dy)
            throws IllegalStateException, IndexOutOfBoundsException, IllegalArgumentException {
        refuseIdle();
        refuseMissingBoard(board);
        refuseMissingBoard(other);
        if (board == other || !isShift(dx) || !isShift(dy)) {
            throw new IllegalArgumentException();
        }
        return Points.codeRefinement(coder(), boards[board], boards[other], dx, dy);
    }

    public int number(int kind, int v)
            throws IllegalStateException, IndexOutOfBoundsException, IllegalArgumentException {
        refuseIdle();
        if (!within(kind, 0, OPEN_KINDS - 1)) {
            throw new IndexOutOfBoundsException();
        }
        if (mode == WRITING && v != NO && !within(v, -LARGEST_NUMBER, LARGEST_NUMBER)) {
            throw new IllegalArgumentException();
        }
        return Numbers.codeNumber(coder(), kind, v);
    }

    public int learn(int board) throws IndexOutOfBoundsException, UnsupportedOperationException {
        refuseMissingBoard(board);
        if (symbols.count == SymbolRow.MOST) {
            throw new UnsupportedOperationException();
        }
        symbols.pictures[symbols.count].copy(boards[board]);
        symbols.count++;
        return symbols.count - 1;
    }

    public void forget() {
        symbols.count = 0;
        marks.count = 0;
    }

    public int mark(int symbol, int s, int t)
            throws IndexOutOfBoundsException, IllegalArgumentException, UnsupportedOperationException {
        refuseMissingSymbol(symbol);
        if (!isPlace(s) || !isPlace(t) || marks.endsBehind(t)) {
            throw new IllegalArgumentException();
        }
        if (marks.count == MarkRow.MOST) {
            throw new UnsupportedOperationException();
        }
        marks.set(marks.count, symbol, s, t);
        marks.count++;
        return marks.count;
    }

    public int symbol(int symbol, int x, int y) throws IndexOutOfBoundsException {
        refuseMissingSymbol(symbol);
        Picture picture = symbols.pictures[symbol];
        if (x == -1) {
            return picture.w;
        }
        if (x == -2) {
            return picture.h;
        }
        if (!picture.has(x, y)) {
            throw new IndexOutOfBoundsException();
        }
        return picture.at(x, y);
    }

    public int marked(int k, int part) throws IndexOutOfBoundsException {
        if (!within(k, 0, marks.count - 1)) {
            throw new IndexOutOfBoundsException();
        }
        switch (part) {
            case 0:
                return marks.symbols[k];
            case 1:
                return marks.s[k];
            case 2:
                return marks.t[k];
            default:
                throw new IndexOutOfBoundsException();
        }
    }

    public int dictionary() throws IllegalStateException {
        refuseIdle();
        int total = codeSymbols();
        if (mode == READING) {
            symbols.count = total == BROKEN ? 0 : total;
            marks.count = 0;
        }
        if (total == BROKEN) {
            mode = IDLE;
        }
        return total;
    }

    public int text(int board, int corner, boolean turned, int operation)
            throws IllegalStateException, IndexOutOfBoundsException, IllegalArgumentException {
        refuseIdle();
        refuseMissingBoard(board);
        if (!within(corner, 0, LAST_CORNER) || !within(operation, 0, LAST_OPERATION)) {
            throw new IllegalArgumentException();
        }
        int total = codeMarks(corner, turned);
        marks.count = total == BROKEN ? 0 : total;
        if (total == BROKEN) {
            mode = IDLE;
        }
        for (int k = 0; k < marks.count; k++) {
            stampMark(boards[board], k, corner, turned, operation);
        }
        return total;
    }

    private Coder coder() {
        return mode == WRITING ? writer : reader;
    }

    /** Codes the dictionary; only what is read can come out as BROKEN. */
    private int codeSymbols() {
        Coder coder = coder();
        int total = Numbers.codeNumber(coder, COUNT, symbols.count);
        if (!within(total, 0, SymbolRow.MOST)) {
            return BROKEN;
        }
        int h = 0;
        int w = 0;
        // NO stands for the end of a height: the next symbol opens another one.
        int wider = NO;
        for (int k = 0; k < total; k++) {
            Picture symbol = symbols.pictures[k];
            if (wider == NO) {
                int higher = Numbers.codeNumber(coder, HEIGHT, symbol.h - h);
                h += higher;
                if (higher == NO || !isSide(h)) {
                    return BROKEN;
                }
                w = 0;
                wider = Numbers.codeNumber(coder, WIDTH, symbol.w);
            }
            w += wider;
            if (wider == NO || !isSide(w)) {
                return BROKEN;
            }
            if (mode == READING) {
                symbol.blank(w, h);
            }
            Points.codeRegion(coder, symbol, SYMBOL_TEMPLATE, false);
            boolean stays = k + 1 < total && symbols.pictures[k + 1].h == h;
            wider = Numbers.codeNumber(coder, WIDTH, stays ? symbols.pictures[k + 1].w - w : NO);
        }
        return wider == NO ? total : BROKEN;
    }

    /** Codes a text but draws nothing; only what is read can come out as BROKEN. */
    private int codeMarks(int corner, boolean turned) {
        Coder coder = coder();
        int total = Numbers.codeNumber(coder, COUNT, marks.count);
        if (!within(total, 0, MarkRow.MOST)) {
            return BROKEN;
        }
        int t = 0;
        int f = 0;
        int c = 0;
        // NO stands for the end of a row of marks: the next mark opens another one.
        int gap = NO;
        for (int k = 0; k < total; k++) {
            if (gap == NO) {
                int down = Numbers.codeNumber(coder, ROW, marks.t[k] - t);
                t += down;
                if (down == NO || !isPlace(t)) {
                    return BROKEN;
                }
                int first = Numbers.codeNumber(coder, FIRST, startOf(k, corner, turned) - f);
                if (first == NO) {
                    return BROKEN;
                }
                f += first;
                c = f;
            } else {
                c += gap;
            }
            int symbol = Numbers.codeIndex(coder, marks.symbols[k]);
            if (!isSymbol(symbol)) {
                return BROKEN;
            }
            int s = c + before(symbol, corner, turned);
            if (!within(s, -FARTHEST_READ_PLACE, FARTHEST_READ_PLACE)) {
                return BROKEN;
            }
            marks.set(k, symbol, s, t);
            c += extent(symbol, turned);
            boolean stays = k + 1 < total && marks.t[k + 1] == t;
            gap = Numbers.codeNumber(coder, GAP, stays ? startOf(k + 1, corner, turned) - c : NO);
        }
        return gap == NO ? total : BROKEN;
    }

    /** What c has to be for mark k, so that its S comes out. */
    private int startOf(int k, int corner, boolean turned) {
        return marks.s[k] - before(marks.symbols[k], corner, turned);
    }

    /** How much c becomes greater through a symbol, partly before its S is taken and partly behind that. */
    private int extent(int symbol, boolean turned) {
        Picture picture = symbols.pictures[symbol];
        return (turned ? picture.h : picture.w) - 1;
    }

    /** The part of a symbol's extent that comes before its S: all of it or nothing. */
    private int before(int symbol, int corner, boolean turned) {
        boolean cornerIsFar = turned ? isLower(corner) : isRight(corner);
        return cornerIsFar ? extent(symbol, turned) : 0;
    }

    private void stampMark(Picture board, int k, int corner, boolean turned, int operation) {
        Picture picture = symbols.pictures[marks.symbols[k]];
        int x = turned ? marks.t[k] : marks.s[k];
        int y = turned ? marks.s[k] : marks.t[k];
        int left = isRight(corner) ? x - picture.w + 1 : x;
        int top = isLower(corner) ? y - picture.h + 1 : y;
        board.stamp(picture, left, top, operation);
    }

    private void refuseIdle() {
        if (mode == IDLE) {
            throw new IllegalStateException();
        }
    }

    private void refuseMissingBoard(int board) {
        if (!isBoard(board)) {
            throw new IndexOutOfBoundsException();
        }
    }

    private void refuseMissingSymbol(int symbol) {
        if (!isSymbol(symbol)) {
            throw new IndexOutOfBoundsException();
        }
    }

    private boolean isSymbol(int symbol) {
        return within(symbol, 0, symbols.count - 1);
    }

    private static boolean isBoard(int board) {
        return within(board, 0, BOARDS - 1);
    }

    private static boolean isSide(int v) {
        return within(v, 1, LONGEST_SIDE);
    }

    private static boolean isPlace(int v) {
        return within(v, -FARTHEST_PLACE, FARTHEST_PLACE);
    }

    private static boolean isShift(int v) {
        return within(v, -FARTHEST_SHIFT, FARTHEST_SHIFT);
    }

    private static boolean isRight(int corner) {
        return corner >= 2;
    }

    private static boolean isLower(int corner) {
        return corner == 0 || corner == 2;
    }

    private static boolean within(int v, int least, int most) {
        return v >= least && v <= most;
    }

    /** A board or a symbol. A row of points is one int, so that neighbours come out of it by a shift. */
    private static final class Picture {
        /**
         * The bit of column 0; later columns stand in lower bits, down to column 28 in bit 0. Those behind the
         * picture's width stay 0, so a span of points may run over its edge; one of six points that ends behind
         * column 28 begins behind the widest picture.
         */
        private static final int FIRST_BIT = 28;

        private final int[] rows = new int[LONGEST_SIDE];
        private int w = 1;
        private int h = 1;

        void blank(int newW, int newH) {
            w = newW;
            h = newH;
            Arrays.fill(rows, 0);
        }

        void copy(Picture other) {
            w = other.w;
            h = other.h;
            System.arraycopy(other.rows, 0, rows, 0, LONGEST_SIDE);
        }

        boolean has(int x, int y) {
            return x >= 0 && x < w && y >= 0 && y < h;
        }

        int at(int x, int y) {
            return has(x, y) ? rows[y] >>> (FIRST_BIT - x) & 1 : 0;
        }

        void set(int x, int y, int point) {
            int bit = 1 << (FIRST_BIT - x);
            rows[y] = point == 1 ? rows[y] | bit : rows[y] & ~bit;
        }

        int ones() {
            int sum = 0;
            for (int y = 0; y < h; y++) {
                sum += Integer.bitCount(rows[y]);
            }
            return sum;
        }

        int rowAbove(int y) {
            return y == 0 ? 0 : rows[y - 1];
        }

        /** The points of row y that end with column last, at most six, as a number. */
        int span(int y, int last, int width) {
            if (y < 0 || y >= h || last < 0 || last > FIRST_BIT) {
                return 0;
            }
            return rows[y] >>> (FIRST_BIT - last) & ((1 << width) - 1);
        }

        /** Draws another picture with its upper left point at (x, y), which may be far outside. */
        void stamp(Picture other, int x, int y, int operation) {
            // A shift by 32 or more would wrap; such a picture lies beside this one in any case.
            if (x >= w || x <= -other.w) {
                return;
            }
            int under = shifted(other.allColumns(), x) & allColumns();
            for (int v = 0; v < other.h; v++) {
                int row = y + v;
                if (row >= 0 && row < h) {
                    int both = mixed(rows[row], shifted(other.rows[v], x), operation);
                    rows[row] = (rows[row] & ~under) | (both & under);
                }
            }
        }

        private int allColumns() {
            return ((1 << w) - 1) << (FIRST_BIT + 1 - w);
        }

        private static int shifted(int row, int x) {
            return x >= 0 ? row >>> x : row << -x;
        }

        private static int mixed(int old, int drawn, int operation) {
            switch (operation) {
                case 0:
                    return old | drawn;
                case 1:
                    return old & drawn;
                case 2:
                    return old ^ drawn;
                case 3:
                    return ~(old ^ drawn);
                default:
                    return drawn;
            }
        }
    }

    /** The symbols: the first count of the pictures. */
    private static final class SymbolRow {
        static final int MOST = 8;

        private final Picture[] pictures = new Picture[MOST];
        private int count;

        SymbolRow() {
            for (int i = 0; i < MOST; i++) {
                pictures[i] = new Picture();
            }
        }
    }

    /** The marks: the first count of each row. */
    private static final class MarkRow {
        static final int MOST = 12;

        private final int[] symbols = new int[MOST];
        private final int[] s = new int[MOST];
        private final int[] t = new int[MOST];
        private int count;

        void set(int k, int symbol, int newS, int newT) {
            symbols[k] = symbol;
            s[k] = newS;
            t[k] = newT;
        }

        boolean endsBehind(int place) {
            return count > 0 && t[count - 1] > place;
        }
    }

    /** CODE. */
    private static final class ByteRow {
        private static final int MOST = 600;
        private static final int BEHIND_THE_END = 255;

        private final int[] values = new int[MOST];
        private int count;

        /** Answers whether there was room. */
        boolean append(int v) {
            if (count == MOST) {
                return false;
            }
            values[count] = v;
            count++;
            return true;
        }

        int at(int i) {
            return i < count ? values[i] : BEHIND_THE_END;
        }

        void replaceLast(int v) {
            if (count > 0) {
                values[count - 1] = v;
            }
        }
    }

    /** What the coder has learned: for each context twice its state, and its more likely decision. */
    private static final class Contexts {
        /** Where the contexts of each use begin; those of the templates 1 to 3 have 13, 10 and 10 bits. */
        static final int TEMPLATE_1 = 0;
        static final int TEMPLATE_2 = 8192;
        static final int TEMPLATE_3 = 9216;
        static final int TYPICAL = 10240;
        static final int REFINEMENT = 10244;
        static final int NUMBERS = 11268;
        static final int A_KIND = 512;
        static final int INDEX = 15876;
        private static final int ALL = 15884;

        private static final int[] SIZES = {
            22017, 13313, 6145, 2753, 1313, 545, 22017, 21505, 18433, 14337, 12289, 9217, 7169, 5633, 22017, 21505,
            20737, 18433, 14337, 13313, 12289, 10241, 9217, 8705, 7169, 6145, 5633, 5121, 4609, 4353, 2753, 2497,
            2209, 1313, 1089, 673, 545, 321, 273, 133, 73, 37, 21, 9, 5, 1, 22017
        };
        private static final int[] NEXT = {
            1, 2, 3, 4, 5, 38, 7, 8, 9, 10, 11, 12, 13, 29, 15, 16,
            17, 18, 19, 20, 21, 22, 23, 24, 25, 26, 27, 28, 29, 30, 31, 32,
            33, 34, 35, 36, 37, 38, 39, 40, 41, 42, 43, 44, 45, 45, 46
        };
        private static final int[] LESS = {
            1, 6, 9, 12, 29, 33, 6, 14, 14, 14, 17, 18, 20, 21, 14, 14,
            15, 16, 17, 18, 19, 19, 20, 21, 22, 23, 24, 25, 26, 27, 28, 29,
            30, 31, 32, 33, 34, 35, 36, 37, 38, 39, 40, 41, 42, 43, 46
        };

        private final int[] learned = new int[ALL];

        void renew() {
            Arrays.fill(learned, 0);
        }

        int sizeOf(int context) {
            return SIZES[learned[context] >> 1];
        }

        int likely(int context) {
            return learned[context] & 1;
        }

        void adapt(int context, boolean asUsual) {
            int stands = learned[context] >> 1;
            int likely = learned[context] & 1;
            if (asUsual) {
                learned[context] = 2 * NEXT[stands] + likely;
            } else {
                learned[context] = 2 * LESS[stands] + (isTurn(stands) ? 1 - likely : likely);
            }
        }

        private static boolean isTurn(int stands) {
            return stands == 0 || stands == 6 || stands == 14;
        }
    }

    /** Codes decisions one by one. */
    private abstract static class Coder {
        static final int HALF = 32768;
        /** A is 1 at least when it has to grow, so it has grown to HALF before this many doublings. */
        static final int MOST_DOUBLINGS = 16;

        final Contexts contexts;
        final ByteRow bytes;
        int a;
        int c;
        int n;

        Coder(Contexts contexts, ByteRow bytes) {
            this.contexts = contexts;
            this.bytes = bytes;
        }

        /** Answers the decision that was written, which is the one given, or read. */
        abstract int decide(int context, int decision);
    }

    private static final class Writer extends Coder {
        private static final int CARRY = 1 << 27;
        private static final int STUFFED = 255;
        private static final int END_MARK = 172;

        private int last;
        private boolean lastIsKept;

        Writer(Contexts contexts, ByteRow bytes) {
            super(contexts, bytes);
        }

        void start() {
            bytes.count = 0;
            last = 0;
            lastIsKept = false;
            a = HALF;
            c = 0;
            n = 12;
        }

        int decide(int context, int decision) {
            int q = contexts.sizeOf(context);
            boolean asUsual = decision == contexts.likely(context);
            a -= q;
            if (asUsual && a >= HALF) {
                c += q;
                return decision;
            }
            boolean small = a < q;
            if (asUsual == small) {
                a = q;
            } else {
                c += q;
            }
            contexts.adapt(context, asUsual);
            shiftOut();
            return decision;
        }

        void finish() {
            int top = c + a;
            c |= 65535;
            if (c >= top) {
                c -= HALF;
            }
            c <<= n;
            sendByte();
            c <<= n;
            sendByte();
            if (last != STUFFED) {
                bytes.append(STUFFED);
            }
            bytes.append(END_MARK);
        }

        private void shiftOut() {
            for (int i = 0; i < MOST_DOUBLINGS && (i == 0 || a < HALF); i++) {
                a <<= 1;
                c <<= 1;
                n--;
                if (n == 0) {
                    sendByte();
                }
            }
        }

        private void sendByte() {
            if (last != STUFFED && c >= CARRY) {
                last++;
                if (lastIsKept) {
                    bytes.replaceLast(last);
                }
                if (last == STUFFED) {
                    c &= CARRY - 1;
                }
            }
            if (last == STUFFED) {
                last = c >>> 20;
                c &= (1 << 20) - 1;
                n = 7;
            } else {
                last = c >>> 19 & 255;
                c &= (1 << 19) - 1;
                n = 8;
            }
            lastIsKept = bytes.append(last);
        }
    }

    private static final class Reader extends Coder {
        private static final int LAST_BEHIND_255 = 143;

        private int place;

        Reader(Contexts contexts, ByteRow bytes) {
            super(contexts, bytes);
        }

        void start() {
            place = 0;
            c = bytes.at(0) << 16;
            takeByte();
            c <<= 7;
            n -= 7;
            a = HALF;
        }

        int decide(int context, int decision) {
            int q = contexts.sizeOf(context);
            int likely = contexts.likely(context);
            boolean asUsual;
            a -= q;
            if (c >>> 16 < q) {
                asUsual = a < q;
                a = q;
            } else {
                c -= q << 16;
                if (a >= HALF) {
                    return likely;
                }
                asUsual = a >= q;
            }
            contexts.adapt(context, asUsual);
            shiftIn();
            return asUsual ? likely : 1 - likely;
        }

        private void shiftIn() {
            for (int i = 0; i < MOST_DOUBLINGS && (i == 0 || a < HALF); i++) {
                if (n == 0) {
                    takeByte();
                }
                a <<= 1;
                c <<= 1;
                n--;
            }
        }

        private void takeByte() {
            int now = bytes.at(place);
            int following = bytes.at(place + 1);
            if (now != 255) {
                place++;
                c += following << 8;
                n = 8;
            } else if (following > LAST_BEHIND_255) {
                c += 65280;
                n = 8;
            } else {
                place++;
                c += following << 9;
                n = 7;
            }
        }
    }

    /** Regions and refinements. */
    private static final class Points {
        /** Answers how many rows were coded as the same. */
        static int codeRegion(Coder coder, Picture picture, int template, boolean typical) {
            int sameRows = 0;
            for (int y = 0; y < picture.h; y++) {
                int same = typical ? codeSameness(coder, picture, template, y) : 0;
                sameRows += same;
                if (same == 1) {
                    picture.rows[y] = picture.rowAbove(y);
                } else {
                    codeRow(coder, picture, template, y);
                }
            }
            return sameRows;
        }

        /** Answers how many points are not what the other picture has in their place. */
        static int codeRefinement(Coder coder, Picture picture, Picture other, int dx, int dy) {
            int changed = 0;
            for (int y = 0; y < picture.h; y++) {
                for (int x = 0; x < picture.w; x++) {
                    int u = x - dx;
                    int v = y - dy;
                    int around = picture.span(y - 1, x + 1, 3) << 1 | picture.span(y, x - 1, 1);
                    int there = other.span(v - 1, u, 1) << 5 | other.span(v, u + 1, 3) << 2
                            | other.span(v + 1, u + 1, 2);
                    int context = Contexts.REFINEMENT + (around << 6 | there);
                    int point = coder.decide(context, picture.at(x, y));
                    picture.set(x, y, point);
                    changed += point == other.at(u, v) ? 0 : 1;
                }
            }
            return changed;
        }

        private static int codeSameness(Coder coder, Picture picture, int template, int y) {
            int same = picture.rows[y] == picture.rowAbove(y) ? 1 : 0;
            return coder.decide(Contexts.TYPICAL + template, same);
        }

        private static void codeRow(Coder coder, Picture picture, int template, int y) {
            for (int x = 0; x < picture.w; x++) {
                int context = contextOf(picture, template, x, y);
                picture.set(x, y, coder.decide(context, picture.at(x, y)));
            }
        }

        private static int contextOf(Picture picture, int template, int x, int y) {
            switch (template) {
                case 1:
                    return Contexts.TEMPLATE_1 + (picture.span(y - 2, x + 2, 4) << 9
                            | picture.span(y - 1, x + 3, 6) << 3 | picture.span(y, x - 1, 3));
                case 2:
                    return Contexts.TEMPLATE_2 + (picture.span(y - 2, x + 1, 3) << 7
                            | picture.span(y - 1, x + 2, 5) << 2 | picture.span(y, x - 1, 2));
                default:
                    return Contexts.TEMPLATE_3 + (picture.span(y - 1, x + 2, 6) << 4
                            | picture.span(y, x - 1, 4));
            }
        }
    }

    /** Numbers and indexes. */
    private static final class Numbers {
        /** By ranges: the smallest number of each without sign, and in how many bits it tells the rest. */
        private static final int[] STARTS = {0, 4, 20, 84, 340, 4436};
        private static final int[] BITS = {2, 4, 6, 8, 12, 32};
        private static final int LAST_RANGE = 5;

        static int codeNumber(Coder coder, int kind, int v) {
            int base = Contexts.NUMBERS + Contexts.A_KIND * kind;
            // NO NUMBER goes the way of a 0 that is below 0, which no number is.
            int m = v == NO ? 0 : Math.abs(v);
            int r = follow(coder, base, 1, v < 0 ? 1 : 0);
            boolean negative = isOne(r);
            int range = 0;
            for (; range < LAST_RANGE; range++) {
                r = follow(coder, base, r, m >= STARTS[range + 1] ? 1 : 0);
                if (!isOne(r)) {
                    break;
                }
            }
            int rest = 0;
            for (int bit = BITS[range] - 1; bit >= 0; bit--) {
                r = follow(coder, base, r, (m - STARTS[range]) >>> bit & 1);
                rest = 2 * rest + (r & 1);
            }
            if (negative && range == 0 && rest == 0) {
                return NO;
            }
            int size = STARTS[range] + rest;
            return negative ? -size : size;
        }

        static int codeIndex(Coder coder, int index) {
            int r = 1;
            for (int bit = 2; bit >= 0; bit--) {
                r = 2 * r + coder.decide(Contexts.INDEX + r, index >> bit & 1);
            }
            return r - 8;
        }

        /** Codes a decision in the context r and answers the next r, whose lowest bit is the decision. */
        private static int follow(Coder coder, int base, int r, int decision) {
            int next = 2 * r + coder.decide(base + r, decision);
            return r < 256 ? next : (next & 255) | 256;
        }

        private static boolean isOne(int r) {
            return (r & 1) == 1;
        }
    }
}
