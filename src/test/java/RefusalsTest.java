import java.util.ArrayList;
import java.util.List;

/**
 * "A call that throws changes nothing; where several exceptions that a call names fit, it is the one that it names
 * first", and calls that are refused with false. Each call is made with the last values inside and the first ones
 * outside, on an object that is idle, one that is writing and one that is reading. Behind a refused call the object
 * goes on, and all of it has to be as if that call had not been made.
 */
public final class RefusalsTest {
    private static final int IDLE = 0;
    private static final int WRITING = 1;
    private static final int READING = 2;
    private static final int MIN = Integer.MIN_VALUE;
    private static final int MAX = Integer.MAX_VALUE;

    private static final String FINE = "answers";
    private static final String FALSE = "false";
    private static final String STATE = "IllegalStateException";
    private static final String INDEX = "IndexOutOfBoundsException";
    private static final String ARGUMENT = "IllegalArgumentException";
    private static final String UNSUPPORTED = "UnsupportedOperationException";

    private interface Call {
        Object on(InkCoder ink);
    }

    /** A call, and what is due when the coder is idle, writing and reading. */
    private record Row(String name, Call call, String... due) {
    }

    private interface Maker {
        InkCoder make(int state);
    }

    private static final List<Row> ROWS = new ArrayList<>();

    public static void main(String[] args) {
        boards();
        draw();
        code();
        region();
        refine();
        number();
        symbols();
        dictionaryAndText();
        checkRows(RefusalsTest::usual);
        ROWS.clear();
        full();
        checkRows(RefusalsTest::full);
        ROWS.clear();
        empty();
        checkRows(RefusalsTest::empty);
        Check.done();
    }

    /** The call does not look at what the coder does. */
    private static void always(String due, String name, Call call) {
        ROWS.add(new Row(name, call, due, due, due));
    }

    /** The call needs a coder that is not idle. */
    private static void coding(String due, String name, Call call) {
        ROWS.add(new Row(name, call, STATE, due, due));
    }

    private static void checkRows(Maker maker) {
        for (int state = IDLE; state <= READING; state++) {
            String untouched = goOn(maker.make(state));
            for (Row row : ROWS) {
                InkCoder ink = maker.make(state);
                String what = row.name + " in state " + state;
                String got = outcome(ink, row.call);
                Check.due(what, got, row.due[state]);
                if (!got.equals(FINE)) {
                    Check.due(what + ": what comes behind it", goOn(ink), untouched);
                }
            }
        }
    }

    private static String outcome(InkCoder ink, Call call) {
        String answer = answer(ink, call);
        return answer.equals(FALSE) || answer.endsWith("Exception") ? answer : FINE;
    }

    private static String answer(InkCoder ink, Call call) {
        try {
            return String.valueOf(call.on(ink));
        } catch (RuntimeException e) {
            return e.getClass().getSimpleName();
        }
    }

    /** Boards, symbols, marks and CODE, with the coder in the midst of something. */
    private static InkCoder usual(int state) {
        InkCoder ink = new InkCoder();
        Sight.set(ink, 0, "10010", "01100", "01101", "10001");
        Sight.set(ink, 1, "0110", "1001", "1110");
        Sight.set(ink, 2, "101", "010");
        ink.learn(1);
        ink.learn(2);
        ink.mark(0, 2, -1);
        ink.mark(1, 7, -1);
        ink.mark(1, 0, 6);
        return inState(ink, state);
    }

    private static InkCoder full(int state) {
        InkCoder ink = new InkCoder();
        for (int k = 0; k < 8; k++) {
            ink.size(0, 1 + k % 3, 1 + k / 3);
            ink.flip(0, 0, k / 3);
            ink.learn(0);
        }
        for (int k = 0; k < 12; k++) {
            ink.mark(k % 8, k, 3 + k / 4);
        }
        return inState(ink, state);
    }

    private static InkCoder empty(int state) {
        InkCoder ink = new InkCoder();
        if (state != IDLE) {
            ink.begin(state == WRITING);
        }
        return ink;
    }

    private static InkCoder inState(InkCoder ink, int state) {
        ink.begin(true);
        codeFirst(ink);
        codeRest(ink);
        ink.end();
        if (state != IDLE) {
            ink.begin(state == WRITING);
            codeFirst(ink);
        }
        return ink;
    }

    private static void codeFirst(InkCoder ink) {
        ink.number(1, 5);
        ink.region(0, 3, false);
        ink.number(2, -90);
    }

    private static String codeRest(InkCoder ink) {
        return answer(ink, i -> i.number(0, -777)) + " " + answer(ink, i -> i.region(0, 1, true)) + " "
                + answer(ink, i -> i.refine(1, 0, 1, -1)) + " " + answer(ink, InkCoder::dictionary) + " "
                + answer(ink, i -> i.text(2, 2, true, 2)) + " " + answer(ink, i -> i.number(1, 6));
    }

    /** What the object shows, then what it does, then what it shows. */
    private static String goOn(InkCoder ink) {
        String before = Sight.of(ink);
        if (ink.state() == IDLE) {
            ink.begin(true);
        }
        String coded = codeRest(ink) + " " + answer(ink, InkCoder::end);
        return before + coded + "\n" + Sight.of(ink);
    }

    private static void size(String due, int board, int w, int h) {
        always(due, "size(" + board + ", " + w + ", " + h + ")", ink -> {
            ink.size(board, w, h);
            return "";
        });
    }

    private static void flip(String due, int board, int x, int y) {
        always(due, "flip(" + board + ", " + x + ", " + y + ")", ink -> ink.flip(board, x, y) ? "flipped" : "back");
    }

    private static void point(String due, int board, int x, int y) {
        always(due, "point(" + board + ", " + x + ", " + y + ")", ink -> ink.point(board, x, y));
    }

    private static void board(String due, int board, int part) {
        always(due, "board(" + board + ", " + part + ")", ink -> ink.board(board, part));
    }

    private static void boards() {
        int[] noBoard = {-1, 4, MIN, MAX};
        for (int board : noBoard) {
            size(INDEX, board, 1, 1);
            size(INDEX, board, 0, 25);
            flip(INDEX, board, 0, 0);
            flip(INDEX, board, 99, -1);
            point(FALSE, board, 0, 0);
            board(INDEX, board, 0);
            board(INDEX, board, 3);
        }
        int[] noSide = {0, 25, -1, MIN, MAX};
        for (int side : noSide) {
            size(ARGUMENT, 0, side, 1);
            size(ARGUMENT, 3, 24, side);
            size(ARGUMENT, 1, side, side);
        }
        int[] sides = {1, 2, 23, 24};
        for (int side : sides) {
            size(FINE, 0, side, 25 - side);
            size(FINE, 3, side, side);
        }
        int[][] noPoint = {{5, 0}, {0, 4}, {5, 4}, {-1, 0}, {0, -1}, {MIN, 0}, {0, MIN}, {MAX, 0}, {0, MAX}, {32, 0}};
        for (int[] p : noPoint) {
            flip(INDEX, 0, p[0], p[1]);
            point(FALSE, 0, p[0], p[1]);
        }
        flip(FINE, 0, 4, 3);
        flip(FINE, 0, 0, 0);
        flip(FINE, 3, 0, 0);
        point(FINE, 0, 0, 0);
        point(FINE, 0, 4, 3);
        point(FALSE, 0, 1, 0);
        int[] noPart = {3, -1, MIN, MAX};
        for (int part : noPart) {
            board(ARGUMENT, 0, part);
        }
        for (int part = 0; part < 3; part++) {
            board(FINE, 3, part);
        }
    }

    private static void draw(String due, int board, int other, int x, int y, int operation) {
        always(due, "draw(" + board + ", " + other + ", " + x + ", " + y + ", " + operation + ")", ink -> {
            ink.draw(board, other, x, y, operation);
            return "";
        });
    }

    private static void draw() {
        int[] noBoard = {-1, 4, MIN, MAX};
        for (int board : noBoard) {
            draw(INDEX, board, 0, 0, 0, 0);
            draw(INDEX, 0, board, 0, 0, 0);
            draw(INDEX, board, board, 0, 0, 0);
            draw(INDEX, board, 0, 101, 0, 0);
            draw(INDEX, 0, board, 0, -101, 5);
        }
        int[] tooFar = {101, -101, MIN, MAX};
        for (int far : tooFar) {
            draw(ARGUMENT, 0, 1, far, 0, 4);
            draw(ARGUMENT, 0, 1, 0, far, 4);
        }
        int[] noOperation = {-1, 5, MIN, MAX};
        for (int operation : noOperation) {
            draw(ARGUMENT, 0, 1, 0, 0, operation);
        }
        for (int board = 0; board < 4; board++) {
            draw(ARGUMENT, board, board, 0, 0, 3);
        }
        for (int operation = 0; operation < 5; operation++) {
            draw(FINE, 3, 0, 100, -100, operation);
            draw(FINE, 0, 3, -100, 100, operation);
        }
    }

    private static void code() {
        ROWS.add(new Row("put(0)", ink -> ink.put(0), FINE, FALSE, FALSE));
        ROWS.add(new Row("put(-1)", ink -> ink.put(-1), FINE, FALSE, FALSE));
        ROWS.add(new Row("cut(0)", ink -> ink.cut(0), FINE, FALSE, FALSE));
        ROWS.add(new Row("cut(1)", ink -> ink.cut(1), FINE, FALSE, FALSE));
        ROWS.add(new Row("cut(length())", ink -> ink.cut(ink.length()), FINE, FALSE, FALSE));
        always(FALSE, "cut(length() + 1)", ink -> ink.cut(ink.length() + 1));
        int[] none = {-1, MIN, MAX};
        for (int n : none) {
            always(FALSE, "cut(" + n + ")", ink -> ink.cut(n));
            always(INDEX, "code(" + n + ")", ink -> ink.code(n));
        }
        always(INDEX, "code(length())", ink -> ink.code(ink.length()));
        always(FINE, "code(length() - 1)", ink -> ink.code(ink.length() - 1));
        always(FINE, "code(0)", ink -> ink.code(0));
        coding(FINE, "end()", InkCoder::end);
    }

    private static void region(String due, int board, int template) {
        coding(due, "region(" + board + ", " + template + ", true)", ink -> ink.region(board, template, true));
        coding(due, "region(" + board + ", " + template + ", false)", ink -> ink.region(board, template, false));
    }

    private static void region() {
        int[] noBoard = {-1, 4, MIN, MAX};
        for (int board : noBoard) {
            region(INDEX, board, 1);
            region(INDEX, board, 0);
            region(INDEX, board, 4);
        }
        int[] noTemplate = {0, 4, -1, MIN, MAX};
        for (int template : noTemplate) {
            region(ARGUMENT, 0, template);
            region(ARGUMENT, 3, template);
        }
        for (int template = 1; template < 4; template++) {
            region(FINE, 0, template);
            region(FINE, 3, template);
        }
    }

    private static void refine(String due, int board, int other, int dx, int dy) {
        coding(due, "refine(" + board + ", " + other + ", " + dx + ", " + dy + ")",
                ink -> ink.refine(board, other, dx, dy));
    }

    private static void refine() {
        int[] noBoard = {-1, 4, MIN, MAX};
        for (int board : noBoard) {
            refine(INDEX, board, 0, 0, 0);
            refine(INDEX, 0, board, 0, 0);
            refine(INDEX, board, board, 0, 0);
            refine(INDEX, board, 0, 25, 0);
            refine(INDEX, 0, board, 0, -25);
        }
        int[] tooFar = {25, -25, MIN, MAX};
        for (int far : tooFar) {
            refine(ARGUMENT, 0, 1, far, 0);
            refine(ARGUMENT, 0, 1, 0, far);
        }
        for (int board = 0; board < 4; board++) {
            refine(ARGUMENT, board, board, 0, 0);
        }
        refine(FINE, 0, 3, 24, -24);
        refine(FINE, 3, 0, -24, 24);
    }

    private static void number(String idle, String writing, String reading, int kind, int v) {
        ROWS.add(new Row("number(" + kind + ", " + v + ")", ink -> ink.number(kind, v), idle, writing, reading));
    }

    private static void number() {
        int[] noKind = {-1, 3, 4, 5, 6, 7, 8, 9, MIN, MAX};
        for (int kind : noKind) {
            number(STATE, INDEX, INDEX, kind, 0);
            number(STATE, INDEX, INDEX, kind, 1000001);
        }
        int[] tooLong = {1000001, -1000001, MAX, -MAX};
        for (int v : tooLong) {
            number(STATE, ARGUMENT, FINE, 0, v);
            number(STATE, ARGUMENT, FINE, 2, v);
        }
        int[] fine = {1000000, -1000000, 0, InkCoder.NO};
        for (int v : fine) {
            for (int kind = 0; kind < 3; kind++) {
                number(STATE, FINE, FINE, kind, v);
            }
        }
    }

    private static void learn(String due, int board) {
        always(due, "learn(" + board + ")", ink -> ink.learn(board));
    }

    private static void mark(String due, int symbol, int s, int t) {
        always(due, "mark(" + symbol + ", " + s + ", " + t + ")", ink -> ink.mark(symbol, s, t));
    }

    private static void symbol(String due, int symbol, int x, int y) {
        always(due, "symbol(" + symbol + ", " + x + ", " + y + ")", ink -> ink.symbol(symbol, x, y));
    }

    private static void marked(String due, int k, int part) {
        always(due, "marked(" + k + ", " + part + ")", ink -> ink.marked(k, part));
    }

    /** There are two symbols, 4 times 3 and 3 times 2, and three marks, the last one with T = 6. */
    private static void symbols() {
        int[] noBoard = {-1, 4, MIN, MAX};
        for (int board : noBoard) {
            learn(INDEX, board);
        }
        learn(FINE, 0);
        learn(FINE, 3);
        int[] noSymbol = {-1, 2, 7, 8, MIN, MAX};
        for (int symbol : noSymbol) {
            mark(INDEX, symbol, 0, 6);
            mark(INDEX, symbol, 101, 5);
            symbol(INDEX, symbol, 0, 0);
            symbol(INDEX, symbol, -1, 0);
            symbol(INDEX, symbol, -2, 0);
        }
        int[] tooFar = {101, -101, MIN, MAX};
        for (int far : tooFar) {
            mark(ARGUMENT, 0, far, 6);
            mark(ARGUMENT, 1, 0, far);
        }
        mark(ARGUMENT, 0, 0, 5);
        mark(FINE, 1, 100, 6);
        mark(FINE, 0, -100, 100);
        int[][] noPoint = {{4, 0}, {0, 3}, {0, -1}, {-3, 0}, {MIN, 0}, {MAX, 0}, {0, MIN}, {0, MAX}};
        for (int[] p : noPoint) {
            symbol(INDEX, 0, p[0], p[1]);
        }
        symbol(FINE, 0, 3, 2);
        symbol(FINE, 0, -1, MIN);
        symbol(FINE, 1, -2, MAX);
        int[] noMark = {-1, 3, 11, 12, MIN, MAX};
        for (int k : noMark) {
            marked(INDEX, k, 0);
            marked(INDEX, k, 3);
        }
        int[] noPart = {-1, 3, MIN, MAX};
        for (int part : noPart) {
            marked(INDEX, 0, part);
            marked(INDEX, 2, part);
        }
        for (int part = 0; part < 3; part++) {
            marked(FINE, 2, part);
        }
    }

    private static void text(String due, int board, int corner, int operation) {
        coding(due, "text(" + board + ", " + corner + ", false, " + operation + ")",
                ink -> ink.text(board, corner, false, operation));
        coding(due, "text(" + board + ", " + corner + ", true, " + operation + ")",
                ink -> ink.text(board, corner, true, operation));
    }

    private static void dictionaryAndText() {
        coding(FINE, "dictionary()", InkCoder::dictionary);
        int[] noBoard = {-1, 4, MIN, MAX};
        for (int board : noBoard) {
            text(INDEX, board, 0, 0);
            text(INDEX, board, 4, 5);
        }
        int[] noCorner = {-1, 4, MIN, MAX};
        for (int corner : noCorner) {
            text(ARGUMENT, 0, corner, 0);
        }
        int[] noOperation = {-1, 5, MIN, MAX};
        for (int operation : noOperation) {
            text(ARGUMENT, 0, 0, operation);
        }
        for (int corner = 0; corner < 4; corner++) {
            text(FINE, 0, corner, corner + 1);
            text(FINE, 3, corner, 0);
        }
    }

    /** There are eight symbols and twelve marks, the last one with T = 5. */
    private static void full() {
        learn(UNSUPPORTED, 0);
        learn(UNSUPPORTED, 3);
        learn(INDEX, 4);
        learn(INDEX, -1);
        mark(UNSUPPORTED, 0, 0, 5);
        mark(UNSUPPORTED, 7, 100, 100);
        mark(UNSUPPORTED, 7, -100, 5);
        mark(ARGUMENT, 0, 0, 4);
        mark(ARGUMENT, 0, 101, 5);
        mark(ARGUMENT, 0, -101, 5);
        mark(ARGUMENT, 0, 0, 101);
        mark(INDEX, 8, 0, 5);
        mark(INDEX, 8, 101, 4);
        mark(INDEX, -1, 0, 5);
        symbol(INDEX, 8, -1, 0);
        symbol(FINE, 7, -1, 0);
        marked(INDEX, 12, 0);
        marked(FINE, 11, 2);
    }

    /** Nothing at all: no symbol, no mark, no byte. */
    private static void empty() {
        mark(INDEX, 0, 0, 0);
        mark(INDEX, 0, 101, 0);
        symbol(INDEX, 0, -1, 0);
        symbol(INDEX, 0, 0, 0);
        marked(INDEX, 0, 0);
        always(INDEX, "code(0)", ink -> ink.code(0));
        always(FALSE, "cut(1)", ink -> ink.cut(1));
        always(FALSE, "cut(-1)", ink -> ink.cut(-1));
        ROWS.add(new Row("cut(0)", ink -> ink.cut(0), FINE, FALSE, FALSE));
        learn(FINE, 0);
    }
}
