import java.util.ArrayList;
import java.util.HashMap;
import java.util.List;
import java.util.Map;
import java.util.Set;
import java.util.TreeSet;

/**
 * The document's coder once more, word for word and with contexts by name: it says what bytes are due, and writes
 * bytes that the class itself would never write.
 */
final class PlainCoder {
    private static final String SIZES = "22017 13313 6145 2753 1313 545 22017 21505 18433 14337 12289 9217 7169 5633"
            + " 22017 21505 20737 18433 14337 13313 12289 10241 9217 8705 7169 6145 5633 5121 4609 4353 2753 2497 2209"
            + " 1313 1089 673 545 321 273 133 73 37 21 9 5 1 22017";
    private static final String LESS = "1 6 9 12 29 33 6 14 14 14 17 18 20 21 14 14 15 16 17 18 19 19 20 21 22 23 24 25"
            + " 26 27 28 29 30 31 32 33 34 35 36 37 38 39 40 41 42 43 46";

    private static final class Context {
        int state = 0;
        int likely = 0;
    }

    final List<Integer> code = new ArrayList<>();
    /** The edges of the document's sentences that were met, by name: a test can say that it came past them. */
    final Set<String> met = new TreeSet<>();
    private final Map<String, Context> contexts = new HashMap<>();
    private final int[] sizes = numbers(SIZES);
    private final int[] less = numbers(LESS);
    int a;
    int c;
    int n;
    private int p;
    private int last;
    private boolean lastInCode;

    private static int[] numbers(String text) {
        String[] words = text.split(" ");
        int[] values = new int[words.length];
        for (int i = 0; i < words.length; i++) {
            values[i] = Integer.parseInt(words[i]);
        }
        return values;
    }

    private Context context(String name) {
        return contexts.computeIfAbsent(name, k -> new Context());
    }

    private void meet(boolean isMet, String edge) {
        if (isMet) {
            met.add(edge);
        }
    }

    int stateOf(String name) {
        return context(name).state;
    }

    private void usual(Context x) {
        met.add("goes on as usual from " + x.state);
        switch (x.state) {
            case 5 -> x.state = 38;
            case 13 -> x.state = 29;
            case 45, 46 -> { }
            default -> x.state++;
        }
    }

    private void wrong(Context x) {
        met.add("is wrong in " + x.state);
        if (x.state == 0 || x.state == 6 || x.state == 14) {
            x.likely = 1 - x.likely;
        }
        x.state = less[x.state];
    }

    void beginWriting() {
        contexts.clear();
        code.clear();
        last = 0;
        lastInCode = false;
        a = 32768;
        c = 0;
        n = 12;
    }

    void write(String name, int decision) {
        Context x = context(name);
        int q = sizes[x.state];
        a -= q;
        meetQ(decision == x.likely ? "writes the more likely one" : "writes the other one", q);
        if (decision == x.likely) {
            meetHalf("writes the more likely one");
            if (a >= 32768) {
                c += q;
                return;
            }
            if (a < q) {
                a = q;
            } else {
                c += q;
            }
            usual(x);
        } else {
            if (a < q) {
                c += q;
            } else {
                a = q;
            }
            wrong(x);
        }
        do {
            a *= 2;
            c *= 2;
            n--;
            if (n == 0) {
                byteGoesOut();
            }
        } while (a < 32768);
    }

    private void meetQ(String doing, int q) {
        meet(a == q, doing + ", A is just q");
        meet(a == q - 1, doing + ", A is just below q");
    }

    private void meetHalf(String doing) {
        meet(a == 32768, doing + ", A is just 32768");
        meet(a == 32767, doing + ", A is just below 32768");
    }

    private void meetCarry() {
        int bit = 1 << 27;
        meet(last != 255 && c == bit, "C is just 2^27");
        // its lowest 8 bits at least are 0 when it has doubled so often since something was added
        meet(last != 255 && c < bit && c >= bit - 256, "C is just below 2^27");
        meet(last == 255 && c >= bit, "no carry into 255");
        meet(last == 254 && c >= bit, "a carry makes 255");
        meet(last < 254 && c >= bit, "a carry makes less than 255");
        meet(last != 255 && c >= bit && lastInCode && code.size() == 600, "a carry into the 600th byte");
        meet(last != 255 && c >= bit && !lastInCode, "a carry into a lost byte");
    }

    private void byteGoesOut() {
        meetCarry();
        if (last != 255 && c >= 1 << 27) {
            last++;
            if (lastInCode) {
                code.set(code.size() - 1, last);
            }
            if (last == 255) {
                c = c % (1 << 27);
            }
        }
        if (last == 255) {
            goOut(c / (1 << 20));
            c = c % (1 << 20);
            n = 7;
        } else {
            goOut(c / (1 << 19) % 256);
            c = c % (1 << 19);
            n = 8;
        }
    }

    private void goOut(int v) {
        lastInCode = code.size() < 600;
        if (lastInCode) {
            code.add(v);
        }
        last = v;
    }

    void endWriting() {
        int z = c + a;
        c = c | 0xFFFF;
        // Z is even, for it doubles, and then A and C change by the same
        meet(c == z - 1, "ends, C is just below Z");
        meet(c == z + 1, "ends, C is just above Z");
        if (c >= z) {
            c -= 32768;
        }
        for (int i = 0; i < 2; i++) {
            c = c << n;
            byteGoesOut();
        }
        met.add(last == 255 ? "ends behind 255" : "ends behind another byte");
        if (last != 255) {
            goOut(255);
        }
        goOut(172);
    }

    private int byteAt(int place) {
        return place < code.size() ? code.get(place) : 255;
    }

    void beginReading() {
        contexts.clear();
        p = 0;
        c = 65536 * byteAt(0);
        byteComesIn();
        c = c << 7;
        n -= 7;
        a = 32768;
    }

    private void meetByte() {
        int now = byteAt(p);
        int following = byteAt(p + 1);
        meet(now == 255 && following == 143, "reads 143 behind 255");
        meet(now == 255 && following == 144, "reads 144 behind 255");
        meet(now == 254 && following > 143, "reads above 143 behind 254");
        meet(p < code.size() && now != 255 && p + 1 == code.size(), "reads behind the last byte");
        meet(p == code.size() - 1 && now == 255, "reads behind a last byte 255");
        meet(p == code.size(), "reads far behind the last byte");
    }

    private void byteComesIn() {
        meetByte();
        if (byteAt(p) == 255) {
            if (byteAt(p + 1) > 143) {
                c += 65280;
                n = 8;
            } else {
                p++;
                c += 512 * byteAt(p);
                n = 7;
            }
        } else {
            p++;
            c += 256 * byteAt(p);
            n = 8;
        }
    }

    int read(String name) {
        Context x = context(name);
        int q = sizes[x.state];
        int decision = x.likely;
        a -= q;
        meet(c >>> 16 == q, "U is just q");
        meet(c >>> 16 == q - 1, "U is just below q");
        meetQ(c >>> 16 < q ? "reads U below q" : "reads U not below q", q);
        if (c >>> 16 < q) {
            if (a < q) {
                usual(x);
            } else {
                decision = 1 - decision;
                wrong(x);
            }
            a = q;
        } else {
            c -= 65536 * q;
            meetHalf("reads U not below q");
            if (a >= 32768) {
                return decision;
            }
            if (a < q) {
                decision = 1 - decision;
                wrong(x);
            } else {
                usual(x);
            }
        }
        do {
            if (n == 0) {
                byteComesIn();
            }
            a *= 2;
            c *= 2;
            n--;
        } while (a < 32768);
        return decision;
    }

    private static String bits(long v, int count) {
        StringBuilder text = new StringBuilder();
        for (int i = count - 1; i >= 0; i--) {
            text.append(v >> i & 1);
        }
        return text.toString();
    }

    /** The decisions of a number; null is NO NUMBER. */
    static String decisions(Long v) {
        if (v == null) {
            return "1000";
        }
        String sign = v < 0 ? "1" : "0";
        long m = v < 0 ? -v : v;
        if (m < 4) {
            return sign + "0" + bits(m, 2);
        }
        if (m < 20) {
            return sign + "10" + bits(m - 4, 4);
        }
        if (m < 84) {
            return sign + "110" + bits(m - 20, 6);
        }
        if (m < 340) {
            return sign + "1110" + bits(m - 84, 8);
        }
        if (m < 4436) {
            return sign + "11110" + bits(m - 340, 12);
        }
        return sign + "11111" + bits(m - 4436, 32);
    }

    private static int follow(int r, int d) {
        return r < 256 ? 2 * r + d : (2 * r + d) % 256 + 256;
    }

    void writeNumber(int kind, Long v) {
        writeDecisions(kind, decisions(v));
    }

    void writeDecisions(int kind, String all) {
        int r = 1;
        for (char d : all.toCharArray()) {
            write("number " + kind + " " + r, d - '0');
            r = follow(r, d - '0');
        }
    }

    /** Answers null for NO NUMBER. */
    Integer readNumber(int kind) {
        int[] starts = {0, 4, 20, 84, 340, 4436};
        int[] lengths = {2, 4, 6, 8, 12, 32};
        StringBuilder seen = new StringBuilder();
        int r = 1;
        int range = 0;
        int left = -1;
        int v = 0;
        while (left != 0) {
            int d = read("number " + kind + " " + r);
            r = follow(r, d);
            seen.append(d);
            if (left > 0) {
                v = 2 * v + d;
                left--;
            } else if (seen.length() > 1) {
                range += d;
                left = d == 0 || range == 5 ? lengths[range] : -1;
            }
        }
        if (seen.toString().equals("1000")) {
            return null;
        }
        v += starts[range];
        v = seen.charAt(0) == '1' ? -v : v;
        return v == Integer.MIN_VALUE ? null : Integer.valueOf(v);
    }

    void writeIndex(int index) {
        int first = index / 4;
        int second = index / 2 % 2;
        write("index 1", first);
        write("index " + (2 + first), second);
        write("index " + (4 + 2 * first + second), index % 2);
    }

    int readIndex() {
        int first = read("index 1");
        int second = read("index " + (2 + first));
        return 4 * first + 2 * second + read("index " + (4 + 2 * first + second));
    }
}
