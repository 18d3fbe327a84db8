/** All that can be seen of an object, as one text. */
final class Sight {
    private Sight() {
    }

    static String of(InkCoder ink) {
        StringBuilder text = new StringBuilder("state " + ink.state() + "\nCODE " + bytes(ink));
        for (int b = 0; b < 4; b++) {
            text.append("\nboard ").append(b).append(", ").append(ink.board(b, 0)).append(" of\n").append(rows(ink, b));
        }
        for (int k = 0; hasSymbol(ink, k); k++) {
            text.append("symbol ").append(k).append('\n').append(symbolRows(ink, k));
        }
        for (int k = 0; hasMark(ink, k); k++) {
            text.append("mark ").append(k).append(": ").append(mark(ink, k)).append('\n');
        }
        return text.toString();
    }

    static String rows(InkCoder ink, int board) {
        StringBuilder text = new StringBuilder();
        int w = ink.board(board, 1);
        int h = ink.board(board, 2);
        for (int y = 0; y < h; y++) {
            for (int x = 0; x < w; x++) {
                text.append(ink.point(board, x, y) ? '1' : '0');
            }
            text.append('\n');
        }
        return text.toString();
    }

    static String symbolRows(InkCoder ink, int symbol) {
        StringBuilder text = new StringBuilder();
        int w = ink.symbol(symbol, -1, 0);
        int h = ink.symbol(symbol, -2, 0);
        for (int y = 0; y < h; y++) {
            for (int x = 0; x < w; x++) {
                text.append(ink.symbol(symbol, x, y));
            }
            text.append('\n');
        }
        return text.toString();
    }

    static String mark(InkCoder ink, int k) {
        return ink.marked(k, 0) + " " + ink.marked(k, 1) + " " + ink.marked(k, 2);
    }

    static String bytes(InkCoder ink) {
        StringBuilder text = new StringBuilder();
        int length = ink.length();
        for (int i = 0; i < length; i++) {
            text.append(i == 0 ? "" : " ").append(ink.code(i));
        }
        return text.toString();
    }

    static int symbols(InkCoder ink) {
        int count = 0;
        while (hasSymbol(ink, count)) {
            count++;
        }
        return count;
    }

    static int marks(InkCoder ink) {
        int count = 0;
        while (hasMark(ink, count)) {
            count++;
        }
        return count;
    }

    private static boolean hasSymbol(InkCoder ink, int k) {
        try {
            ink.symbol(k, -1, 0);
            return true;
        } catch (IndexOutOfBoundsException e) {
            return false;
        }
    }

    private static boolean hasMark(InkCoder ink, int k) {
        try {
            ink.marked(k, 0);
            return true;
        } catch (IndexOutOfBoundsException e) {
            return false;
        }
    }

    /** Gives a board these rows. */
    static void set(InkCoder ink, int board, String... rows) {
        ink.size(board, rows[0].length(), rows.length);
        for (int y = 0; y < rows.length; y++) {
            for (int x = 0; x < rows[y].length(); x++) {
                if (rows[y].charAt(x) == '1') {
                    ink.flip(board, x, y);
                }
            }
        }
    }
}
