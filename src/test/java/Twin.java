import java.util.Random;
import java.util.function.LongSupplier;

/** An object of the class and the plain model beside it: every call goes to both, and their answers are compared. */
final class Twin {
    static final int MOST_CALLS = 512;
    /** No call answers one of these, nor a number that is near them. */
    private static final long THROWN = 1L << 40;

    final InkCoder ink = new InkCoder();
    final PlainModel plain = new PlainModel();
    private final String name;
    private int calls = 0;

    Twin(String name) {
        this.name = name;
    }

    @Override
    public String toString() {
        return name;
    }

    int callsLeft() {
        return MOST_CALLS - calls;
    }

    private static long answer(LongSupplier call) {
        try {
            return call.getAsLong();
        } catch (RuntimeException e) {
            String[] known = {"IllegalStateException", "IndexOutOfBoundsException", "IllegalArgumentException",
                "UnsupportedOperationException"};
            for (int i = 0; i < known.length; i++) {
                if (e.getClass().getSimpleName().equals(known[i])) {
                    return THROWN + i;
                }
            }
            return THROWN + known.length;
        }
    }

    private long both(String call, LongSupplier mine, LongSupplier due) {
        calls++;
        long got = answer(mine);
        Check.due(name + ", call " + calls + ": " + call, got, answer(due));
        return got;
    }

    void size(int b, int w, int h) {
        both("size(" + b + ", " + w + ", " + h + ")", () -> {
            ink.size(b, w, h);
            return 0;
        }, () -> {
            plain.size(b, w, h);
            return 0;
        });
    }

    void flip(int b, int x, int y) {
        both("flip(" + b + ", " + x + ", " + y + ")",
                () -> ink.flip(b, x, y) ? 1 : 0, () -> plain.flip(b, x, y) ? 1 : 0);
    }

    void point(int b, int x, int y) {
        both("point(" + b + ", " + x + ", " + y + ")", () -> ink.point(b, x, y) ? 1 : 0,
                () -> plain.point(b, x, y) ? 1 : 0);
    }

    void draw(int b, int o, int x, int y, int operation) {
        both("draw(" + b + ", " + o + ", " + x + ", " + y + ", " + operation + ")", () -> {
            ink.draw(b, o, x, y, operation);
            return 0;
        }, () -> {
            plain.draw(b, o, x, y, operation);
            return 0;
        });
    }

    void board(int b, int part) {
        both("board(" + b + ", " + part + ")", () -> ink.board(b, part), () -> plain.board(b, part));
    }

    void put(int v) {
        both("put(" + v + ")", () -> ink.put(v) ? 1 : 0, () -> plain.put(v) ? 1 : 0);
    }

    void cut(int n) {
        both("cut(" + n + ")", () -> ink.cut(n) ? 1 : 0, () -> plain.cut(n) ? 1 : 0);
    }

    void length() {
        both("length()", ink::length, plain.coder.code::size);
    }

    void code(int i) {
        both("code(" + i + ")", () -> ink.code(i), () -> plain.code(i));
    }

    /** Compares the bytes from this one on. */
    void bytesFrom(int first) {
        length();
        for (int i = first; i < plain.coder.code.size(); i++) {
            code(i);
        }
    }

    void begin(boolean writing) {
        both("begin(" + writing + ")", () -> {
            ink.begin(writing);
            return 0;
        }, () -> {
            plain.begin(writing);
            return 0;
        });
    }

    long end() {
        return both("end()", ink::end, plain::end);
    }

    void state() {
        both("state()", ink::state, () -> plain.state);
    }

    void region(int b, int template, boolean typical) {
        both("region(" + b + ", " + template + ", " + typical + ")", () -> ink.region(b, template, typical),
                () -> plain.region(b, template, typical));
    }

    long refine(int b, int o, int dx, int dy) {
        return both("refine(" + b + ", " + o + ", " + dx + ", " + dy + ")", () -> ink.refine(b, o, dx, dy),
                () -> plain.refine(b, o, dx, dy));
    }

    void number(int kind, int v) {
        both("number(" + kind + ", " + v + ")", () -> ink.number(kind, v), () -> plain.number(kind, v));
    }

    void learn(int b) {
        both("learn(" + b + ")", () -> ink.learn(b), () -> plain.learn(b));
    }

    void forget() {
        both("forget()", () -> {
            ink.forget();
            return 0;
        }, () -> {
            plain.forget();
            return 0;
        });
    }

    void mark(int symbol, int s, int t) {
        both("mark(" + symbol + ", " + s + ", " + t + ")",
                () -> ink.mark(symbol, s, t), () -> plain.mark(symbol, s, t));
    }

    void symbol(int symbol, int x, int y) {
        both("symbol(" + symbol + ", " + x + ", " + y + ")", () -> ink.symbol(symbol, x, y),
                () -> plain.symbol(symbol, x, y));
    }

    void marked(int k, int part) {
        both("marked(" + k + ", " + part + ")", () -> ink.marked(k, part), () -> plain.marked(k, part));
    }

    long dictionary() {
        return both("dictionary()", ink::dictionary, plain::dictionary);
    }

    long text(int b, int corner, boolean turned, int operation) {
        return both("text(" + b + ", " + corner + ", " + turned + ", " + operation + ")",
                () -> ink.text(b, corner, turned, operation), () -> plain.text(b, corner, turned, operation));
    }

    /** Looks at places of the whole object, as many as calls are left, but this many at the most. */
    void look(Random random, int most) {
        int looks = Math.min(most, callsLeft());
        for (int i = 0; i < looks; i++) {
            switch (random.nextInt(7)) {
                case 0 -> code(random.nextInt(plain.coder.code.size() + 1));
                case 1 -> symbol(random.nextInt(plain.symbols.size() + 1), random.nextInt(26) - 2, random.nextInt(24));
                case 2 -> marked(random.nextInt(plain.marks.size() + 1), random.nextInt(3));
                case 3 -> board(random.nextInt(4), random.nextInt(3));
                case 4 -> length();
                case 5 -> state();
                default -> {
                    int b = random.nextInt(4);
                    point(b, random.nextInt(plain.boards[b][0].length), random.nextInt(plain.boards[b].length));
                }
            }
        }
    }
}
