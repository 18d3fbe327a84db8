/** Promise 16: number. */
public final class NumberTest {
    private static final int[] EDGES = {0, 1, 3, 4, 19, 20, 83, 84, 339, 340, 4435, 4436, 4437, 999999, 1000000};

    public static void main(String[] args) {
        thereAndBack();
        edgesOfTheRanges();
        bytesAreDue();
        kindsAreApart();
        longNumbersAreRead();
        wrapsAreRead();
        wrong();
        Check.done();
    }

    private static void thereAndBack() {
        InkCoder ink = new InkCoder();
        ink.begin(true);
        for (int i = 0; i < EDGES.length; i++) {
            Check.due("written", ink.number(i % 3, EDGES[i]), EDGES[i]);
            Check.due("written", ink.number(i % 3, -EDGES[i]), -EDGES[i]);
            Check.due("written", ink.number(i % 2, InkCoder.NO), InkCoder.NO);
        }
        ink.end();
        ink.begin(false);
        for (int i = 0; i < EDGES.length; i++) {
            Check.due("read", ink.number(i % 3, 5), EDGES[i]);
            Check.due("read", ink.number(i % 3, Integer.MAX_VALUE), -EDGES[i]);
            Check.due("read", ink.number(i % 2, Integer.MIN_VALUE + 1), InkCoder.NO);
        }
    }

    /** The last number of each range and the first one of the next, with their decisions as the document lists them. */
    private static void edgesOfTheRanges() {
        String[][] rows = {
            {"0", "0", "00"}, {"1", "0", "01"}, {"3", "0", "11"},
            {"4", "10", "0000"}, {"19", "10", "1111"},
            {"20", "110", "000000"}, {"83", "110", "111111"},
            {"84", "1110", "00000000"}, {"339", "1110", "11111111"},
            {"340", "11110", "000000000000"}, {"4435", "11110", "111111111111"},
            {"4436", "11111", "00000000000000000000000000000000"},
            {"4437", "11111", "00000000000000000000000000000001"},
            {"1000000", "11111", "00000000000011110011000011101100"}
        };
        for (String[] row : rows) {
            int v = Integer.parseInt(row[0]);
            isCodedAs(v, "0" + row[1] + row[2]);
            if (v != 0) {
                isCodedAs(-v, "1" + row[1] + row[2]);
            }
        }
        isCodedAs(InkCoder.NO, "1000");
    }

    private static void isCodedAs(int v, String decisions) {
        for (int kind = 0; kind < 3; kind++) {
            InkCoder ink = new InkCoder();
            PlainCoder plain = new PlainCoder();
            ink.begin(true);
            plain.beginWriting();
            for (int i = 0; i < 4; i++) {
                Check.due("number(" + kind + ", " + v + ")", ink.number(kind, v), v);
                plain.writeDecisions(kind, decisions);
            }
            ink.end();
            Check.sameBytes("number " + v, ink, plain);
            ink.begin(false);
            for (int i = 0; i < 4; i++) {
                Check.due("number(" + kind + ", ..), read", ink.number(kind, i), v);
            }
        }
    }

    /** "each kind has 512 contexts of its own" */
    private static void kindsAreApart() {
        InkCoder ink = new InkCoder();
        PlainCoder plain = new PlainCoder();
        ink.begin(true);
        plain.beginWriting();
        for (int i = 0; i < 60; i++) {
            int v = i % 3 == 0 ? 7 : i % 3 == 1 ? -700000 : 0;
            ink.number(i % 3, v);
            plain.writeNumber(i % 3, (long) v);
        }
        ink.end();
        Check.sameBytes("kinds", ink, plain);
    }

    private static void bytesAreDue() {
        InkCoder ink = new InkCoder();
        PlainCoder plain = new PlainCoder();
        ink.begin(true);
        plain.beginWriting();
        for (int i = 0; i < EDGES.length * 4; i++) {
            int v = (i & 1) == 0 ? EDGES[i / 4] : -EDGES[i / 4];
            ink.number(i % 3, v);
            plain.writeNumber(i % 3, (long) v);
            if (i % 5 == 0) {
                ink.number(2, InkCoder.NO);
                plain.writeNumber(2, null);
            }
        }
        ink.end();
        Check.sameBytes("numbers", ink, plain);
    }

    private static InkCoder reading(PlainCoder plain) {
        plain.endWriting();
        InkCoder ink = new InkCoder();
        for (int v : plain.code) {
            ink.put(v);
        }
        ink.begin(false);
        return ink;
    }

    private static void longNumbersAreRead() {
        long[] all = {1000001, -1000001, 2147483647L, -2147483647L, 1L << 30, -(1L << 30)};
        PlainCoder plain = new PlainCoder();
        plain.beginWriting();
        for (long v : all) {
            plain.writeNumber(1, v);
        }
        InkCoder ink = reading(plain);
        for (long v : all) {
            Check.due("a long number", ink.number(1, 0), v);
        }
    }

    private static String bits(long v) {
        String text = Long.toBinaryString(v & 0xFFFFFFFFL);
        return "0".repeat(32 - text.length()) + text;
    }

    private static void wrapsAreRead() {
        PlainCoder plain = new PlainCoder();
        plain.beginWriting();
        long[] lengths = {2147483647L, 2147483648L, 2147483649L, 4294967295L, 4294967296L, 4294967297L, 4294971731L};
        for (long m : lengths) {
            plain.writeDecisions(0, "011111" + bits(m - 4436));
            plain.writeDecisions(0, "111111" + bits(m - 4436));
        }
        plain.writeDecisions(0, "0000");
        plain.writeDecisions(0, "1000");
        InkCoder ink = reading(plain);
        for (long m : lengths) {
            int wrapped = (int) m;
            Check.due("read " + m, ink.number(0, 0), wrapped);
            Check.due("read -" + m, ink.number(0, 0), -wrapped);
        }
        Check.due("read 0", ink.number(0, 0), 0);
        Check.due("read NO NUMBER", ink.number(0, 0), InkCoder.NO);
    }

    private static void wrong() {
        InkCoder ink = new InkCoder();
        Check.wrongState("number when idle", () -> ink.number(9, 1000001));
        ink.begin(true);
        int[] kinds = {3, 8, -1, Integer.MIN_VALUE};
        for (int kind : kinds) {
            Check.outOfBounds("number(" + kind + ", 1000001)", () -> ink.number(kind, 1000001));
        }
        int[] numbers = {1000001, -1000001, Integer.MAX_VALUE, Integer.MIN_VALUE + 1};
        for (int v : numbers) {
            Check.wrongArgument("number(0, " + v + ")", () -> ink.number(0, v));
        }
        Check.due("refused ones write nothing", ink.end(), 4);
        ink.begin(false);
        Check.outOfBounds("number(3, 0) when reading", () -> ink.number(3, 0));
        ink.number(2, 1000001);
        Check.due("number(.., 1000001) when reading", ink.state(), 2);
    }
}
