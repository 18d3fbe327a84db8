/**
 * Bytes that are made item by item, also such as the class never writes. The items stand in a text, each a letter and
 * a number: C a COUNT, H a HEIGHT, W a WIDTH, R a ROW, F a FIRST, G a GAP, I an INDEX, and N, M and O numbers of the
 * kinds 0, 1 and 2; P alone are the points of the next symbol, and Z alone those of one that has 0s only. Instead of a
 * number there may be - for NO NUMBER, ~ for NO NUMBER as a number that comes out as -2147483648, and ^ before a
 * number that is coded 2^32 too long, so that it has to wrap.
 */
final class Made {
    private static final String KINDS = "NMOCHWRFG";

    private final PlainCoder plain = new PlainCoder();
    private int h = 0;
    private int w = 0;

    private Made() {
        plain.beginWriting();
    }

    static PlainCoder of(String items) {
        Made made = new Made();
        for (String item : items.split(" ")) {
            made.add(item.charAt(0), item.substring(1));
        }
        made.plain.endWriting();
        return made.plain;
    }

    static String bytes(String items) {
        StringBuilder text = new StringBuilder();
        for (int v : of(items).code) {
            text.append(text.length() == 0 ? "" : " ").append(v);
        }
        return text.toString();
    }

    /** Puts the bytes behind CODE. */
    static void put(InkCoder ink, String items) {
        for (int v : of(items).code) {
            ink.put(v);
        }
    }

    /** The point of a made symbol. */
    static int point(int w, int h, int x, int y) {
        return (7 * x + 3 * y + x * y + w + h) % 3 == 0 ? 1 : 0;
    }

    private void add(char item, String value) {
        if (item == 'P' || item == 'Z') {
            addPoints(item == 'Z');
        } else if (item == 'I') {
            plain.writeIndex(Integer.parseInt(value));
        } else {
            plain.writeDecisions(KINDS.indexOf(item), decisions(value));
        }
        boolean isNumber = !value.isEmpty() && !value.equals("-") && !value.equals("~");
        int number = isNumber ? Integer.parseInt(value.replace("^", "")) : 0;
        if (item == 'C') {
            h = 0;
        } else if (item == 'H') {
            h += number;
            w = 0;
        } else if (item == 'W') {
            w += number;
        }
    }

    private static String decisions(String value) {
        if (value.equals("-")) {
            return "1000";
        }
        if (value.equals("~")) {
            return "111111" + bits((1L << 31) - 4436);
        }
        if (value.startsWith("^")) {
            long number = Long.parseLong(value.substring(1));
            return (number < 0 ? "111111" : "011111") + bits((1L << 32) + Math.abs(number) - 4436);
        }
        return PlainCoder.decisions(Long.valueOf(value));
    }

    private static String bits(long v) {
        String text = Long.toBinaryString(v);
        return "0".repeat(32 - text.length()) + text;
    }

    private void addPoints(boolean blank) {
        if (h < 1 || w < 1 || h > 40 || w > 40) {
            return;
        }
        int[][] picture = new int[h][w];
        for (int y = 0; y < h; y++) {
            for (int x = 0; x < w; x++) {
                picture[y][x] = blank ? 0 : point(w, h, x, y);
                plain.write(PlainModel.around(picture, 2, x, y), picture[y][x]);
            }
        }
    }
}
