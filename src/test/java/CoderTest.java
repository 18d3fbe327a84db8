/** Promises 7 to 13: put, cut, length, code, begin, end, state; and the coder itself. */
public final class CoderTest {
    /** The published test sequence of this coder (ITU-T T.88, H.2): 256 decisions in one context, and their bytes. */
    private static final int[] DECISIONS = {
        0x00, 0x02, 0x00, 0x51, 0x00, 0x00, 0x00, 0xC0, 0x03, 0x52, 0x87, 0x2A, 0xAA, 0xAA, 0xAA, 0xAA,
        0x82, 0xC0, 0x20, 0x00, 0xFC, 0xD7, 0x9E, 0xF6, 0xBF, 0x7F, 0xED, 0x90, 0x4F, 0x46, 0xA3, 0xBF
    };
    private static final int[] CODED = {
        0x84, 0xC7, 0x3B, 0xFC, 0xE1, 0xA1, 0x43, 0x04, 0x02, 0x20, 0x00, 0x00, 0x41, 0x0D, 0xBB,
        0x86, 0xF4, 0x31, 0x7F, 0xFF, 0x88, 0xFF, 0x37, 0x47, 0x1A, 0xDB, 0x6A, 0xDF, 0xFF, 0xAC
    };

    public static void main(String[] args) {
        put();
        cut();
        code();
        nothingWritten();
        nothingRead();
        publishedBytesAreWritten();
        publishedBytesAreRead();
        beginStartsAnew();
        beginForgetsWhatWasRead();
        readingKeepsCode();
        fullCode();
        Check.done();
    }

    private static void put() {
        InkCoder ink = new InkCoder();
        int[][] pairs = {{0, 0}, {255, 255}, {256, 0}, {-1, 255}, {0x1234, 0x34}, {Integer.MIN_VALUE, 0}};
        for (int i = 0; i < pairs.length; i++) {
            Check.due("put(" + pairs[i][0] + ")", ink.put(pairs[i][0]), true);
            Check.due("length", ink.length(), i + 1);
            Check.due("code(" + i + ")", ink.code(i), pairs[i][1]);
        }
        ink.begin(false);
        Check.due("put while reading", ink.put(1), false);
        ink.end();
        Check.due("put when idle again", ink.put(1), true);
        ink.begin(true);
        Check.due("put while writing", ink.put(1), false);
        Check.due("length while writing", ink.length(), 0);
    }

    private static void cut() {
        InkCoder ink = new InkCoder();
        Check.due("cut(0) of nothing", ink.cut(0), true);
        Check.due("cut(1) of nothing", ink.cut(1), false);
        for (int i = 0; i < 5; i++) {
            ink.put(10 + i);
        }
        Check.due("cut(-1)", ink.cut(-1), false);
        Check.due("cut(6)", ink.cut(6), false);
        Check.due("cut(least)", ink.cut(Integer.MIN_VALUE), false);
        Check.due("cut(most)", ink.cut(Integer.MAX_VALUE), false);
        Check.due("cut(5)", ink.cut(5), true);
        Check.due("length", ink.length(), 5);
        Check.due("cut(2)", ink.cut(2), true);
        Check.due("length", ink.length(), 2);
        Check.due("code(1)", ink.code(1), 11);
        ink.put(99);
        Check.due("code(2)", ink.code(2), 99);
        ink.begin(false);
        Check.due("cut while reading", ink.cut(1), false);
        ink.begin(true);
        Check.due("cut while writing", ink.cut(0), false);
    }

    private static void code() {
        InkCoder ink = new InkCoder();
        ink.put(7);
        ink.put(8);
        Check.due("code(1)", ink.code(1), 8);
        int[] wrong = {2, -1, 600, Integer.MIN_VALUE, Integer.MAX_VALUE};
        for (int i : wrong) {
            Check.outOfBounds("code(" + i + ")", () -> ink.code(i));
        }
        ink.cut(1);
        Check.outOfBounds("code(1) behind the cut", () -> ink.code(1));
    }

    private static void nothingWritten() {
        InkCoder ink = new InkCoder();
        ink.put(1);
        ink.put(2);
        ink.put(3);
        Check.wrongState("end() when idle", ink::end);
        ink.begin(true);
        Check.due("state", ink.state(), 1);
        Check.due("length", ink.length(), 0);
        // C is 32767 << 12: first 255, then its 7 bits behind a stuffed one, then 255 and 172
        Check.due("end()", ink.end(), 4);
        Check.due("bytes", Sight.bytes(ink), "255 127 255 172");
        Check.due("state", ink.state(), 0);
        Check.wrongState("end() once more", ink::end);
    }

    private static void nothingRead() {
        InkCoder ink = new InkCoder();
        ink.begin(false);
        Check.due("state", ink.state(), 2);
        Check.due("end()", ink.end(), 0);
        ink.put(5);
        ink.begin(false);
        Check.due("end()", ink.end(), 1);
        Check.due("bytes", Sight.bytes(ink), "5");
        Check.due("state", ink.state(), 0);
    }

    private static int decision(int i) {
        return DECISIONS[i / 8] >> 7 - i % 8 & 1;
    }

    /** A board of one point has nothing around it, so each of its regions is a decision in one context. */
    private static void publishedBytesAreWritten() {
        InkCoder ink = new InkCoder();
        ink.flip(1, 0, 0);
        ink.begin(true);
        for (int i = 0; i < 256; i++) {
            ink.region(decision(i), 3, false);
        }
        Check.due("published: end()", ink.end(), CODED.length);
        for (int i = 0; i < CODED.length; i++) {
            Check.due("published: code(" + i + ")", ink.code(i), CODED[i]);
        }
    }

    /** A refinement of one point by a 0 answers the point. */
    private static void publishedBytesAreRead() {
        InkCoder ink = new InkCoder();
        for (int v : CODED) {
            ink.put(v);
        }
        ink.begin(false);
        for (int i = 0; i < 256; i++) {
            Check.due("published: decision " + i, ink.refine(0, 1, 0, 0), decision(i));
        }
        Check.due("published: end()", ink.end(), CODED.length);
    }

    private static void beginStartsAnew() {
        InkCoder ink = new InkCoder();
        ink.begin(true);
        for (int i = 0; i < 40; i++) {
            ink.number(0, 777);
        }
        Check.due("bytes went out while writing", ink.length() > 0, true);
        ink.begin(true);
        Check.due("begin(true) while writing", ink.length() * 10 + ink.state(), 1);
        ink.number(0, 777);
        int first = ink.end();
        String bytes = Sight.bytes(ink);
        ink.begin(false);
        Check.due("number(0)", ink.number(0, 0), 777);
        ink.begin(false);
        Check.due("number(0), read from the beginning once more", ink.number(0, 0), 777);
        ink.begin(true);
        Check.due("begin(true) while reading", ink.length() * 10 + ink.state(), 1);
        ink.number(0, 777);
        Check.due("end()", ink.end(), first);
        Check.due("contexts are as at first", Sight.bytes(ink), bytes);
        ink.begin(true);
        for (int i = 0; i < 40; i++) {
            ink.number(1, 123456 + 999 * i);
        }
        int out = ink.length();
        ink.begin(false);
        Check.due("begin(false) while writing", ink.length() * 10 + ink.state(), out * 10 + 2);
        Check.due("what went out is read", ink.number(1, 0), 123456);
    }

    /** "When it begins, all contexts are as at first", of each sort. */
    private static void beginForgetsWhatWasRead() {
        InkCoder ink = new InkCoder();
        Sight.set(ink, 0, "1101", "1101", "0110");
        Sight.set(ink, 1, "1001", "0110");
        ink.learn(1);
        ink.mark(0, 1, 1);
        for (int i = 0; i < 3; i++) {
            ink.begin(true);
            codeEachSort(ink);
            if (i == 1) {
                codeEachSort(ink);
                ink.begin(false);
                codeEachSort(ink);
                ink.begin(true);
                codeEachSort(ink);
            }
            ink.end();
            Check.due("bytes of each sort", Sight.bytes(ink), Sight.bytes(eachSort()));
        }
    }

    private static InkCoder eachSort() {
        InkCoder ink = new InkCoder();
        Sight.set(ink, 0, "1101", "1101", "0110");
        Sight.set(ink, 1, "1001", "0110");
        ink.learn(1);
        ink.mark(0, 1, 1);
        ink.begin(true);
        codeEachSort(ink);
        ink.end();
        return ink;
    }

    private static void codeEachSort(InkCoder ink) {
        for (int template = 1; template < 4; template++) {
            ink.region(0, template, true);
            ink.number(template - 1, -30);
        }
        ink.refine(1, 0, 1, 0);
        ink.dictionary();
        ink.text(3, 0, false, 1);
    }

    /** "reading (CODE stays then)", however far it was read. */
    private static void readingKeepsCode() {
        InkCoder ink = new InkCoder();
        int[] all = {0, 255, 143, 255, 144, 9};
        for (int v : all) {
            ink.put(v);
        }
        for (int i = 0; i < 4; i++) {
            ink.begin(false);
            for (int k = 0; k < 10 * i; k++) {
                ink.number(k % 3, 0);
            }
            Check.due("length() while reading", ink.length(), 6);
            Check.due("code(4) while reading", ink.code(4), 144);
            Check.due("end()", ink.end(), 6);
            Check.due("CODE stays", Sight.bytes(ink), "0 255 143 255 144 9");
        }
    }

    private static void fullCode() {
        InkCoder ink = new InkCoder();
        int v = 1;
        ink.begin(true);
        for (int i = 0; i < 320; i++) {
            v = v * 1103515245 + 12345;
            ink.number(i % 3, (v >>> 8) % 1000001);
        }
        Check.due("length", ink.length(), 600);
        Check.due("end()", ink.end(), 600);
        int last = ink.code(599);
        Check.due("put", ink.put(last + 1), false);
        Check.due("put behind 600: length", ink.length(), 600);
        Check.due("put behind 600: the last byte", ink.code(599), last);
        Check.due("cut(601)", ink.cut(601), false);
        Check.due("cut(601): length", ink.length(), 600);
        Check.outOfBounds("code(600)", () -> ink.code(600));
        Check.due("cut(600)", ink.cut(600), true);
        Check.due("cut(599)", ink.cut(599), true);
        Check.due("put", ink.put(77), true);
        Check.due("code(599)", ink.code(599), 77);
        Check.due("put", ink.put(1), false);
        Check.due("cut(0)", ink.cut(0), true);
        Check.due("put", ink.put(3), true);
        Check.due("code(0)", ink.code(0), 3);
    }
}
