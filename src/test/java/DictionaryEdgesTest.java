/** Promise 22, the edges of what is read: each way to answer BROKEN, and what is just not broken. */
public final class DictionaryEdgesTest {
    private static final int IDLE = 0;
    private static final int READING = 2;

    public static void main(String[] args) {
        count();
        heightThatIsNone();
        firstHeight();
        laterHeight();
        firstWidth();
        laterWidth();
        noWidthBeforeTheFirstSymbol();
        numberBehindTheLastSymbol();
        heightsAndWidthsThatStay();
        afterBroken();
        whatWasThereIsGone();
        Check.done();
    }

    /** An object with boards, symbols, marks and these bytes in CODE. */
    private static InkCoder holding(String items) {
        InkCoder ink = new InkCoder();
        Sight.set(ink, 2, "110", "011");
        ink.learn(2);
        ink.learn(3);
        ink.mark(1, 2, 3);
        Made.put(ink, items);
        return ink;
    }

    private static void broken(String items) {
        InkCoder ink = holding(items);
        ink.begin(false);
        Check.due(items, ink.dictionary(), InkCoder.BROKEN);
        InkCoder due = holding(items);
        due.forget();
        Check.due(items + ": what is left", Sight.of(ink), Sight.of(due));
    }

    /** The sides of the symbols that are due, as in "3x2 1x4". */
    private static InkCoder fine(String items, String due) {
        InkCoder ink = holding(items + " N5");
        ink.begin(false);
        int count = due.isEmpty() ? 0 : due.split(" ").length;
        Check.due(items, ink.dictionary(), count);
        Check.due(items + ": state", ink.state(), READING);
        Check.due(items + ": marks", Sight.marks(ink), 0);
        Check.due(items + ": what is behind", ink.number(0, 0), 5);
        StringBuilder sides = new StringBuilder();
        for (int k = 0; k < Sight.symbols(ink); k++) {
            sides.append(k == 0 ? "" : " ").append(ink.symbol(k, -1, 0)).append('x').append(ink.symbol(k, -2, 0));
        }
        Check.due(items + ": symbols", sides.toString(), due);
        checkPoints(ink, items, count);
        return ink;
    }

    private static void checkPoints(InkCoder ink, String items, int count) {
        int left = 300;
        for (int k = 0; k < count; k++) {
            int w = ink.symbol(k, -1, 0);
            int h = ink.symbol(k, -2, 0);
            for (int y = h - 1; y >= 0; y--) {
                for (int x = 0; x < w && left > 0; x++, left--) {
                    Check.due(items + ": symbol " + k, ink.symbol(k, x, y), Made.point(w, h, x, y));
                }
            }
        }
    }

    /** "a COUNT was read that is no number 0 .. 8" */
    private static void count() {
        StringBuilder items = new StringBuilder("H1 W1 P");
        StringBuilder due = new StringBuilder("1x1");
        fine("C0", "");
        for (int count = 1; count <= 8; count++) {
            fine("C" + count + " " + items + " W-", due.toString());
            items.append(" W0 P");
            due.append(" 1x1");
        }
        broken("C9 " + items + " W-");
        broken("C-1");
        broken("C-8 " + items + " W-");
        broken("C-");
        broken("C~");
        broken("C16");
        broken("C256");
        broken("C264 " + items + " W-");
        broken("C2147483647");
        broken("C-2147483647");
        broken("C^9 " + items + " W-");
        broken("C^-1");
        fine("C^0", "");
        fine("C^1 H2 W3 P W-", "3x2");
    }

    /** "a HEIGHT that is none" */
    private static void heightThatIsNone() {
        broken("C1 H- W2 P W-");
        broken("C1 H- H1 W2 P W-");
        broken("C1 H~ W2 P W-");
        broken("C2 H3 W2 P W- H- W2 P W-");
        broken("C2 H3 W2 P W- H~ W2 P W-");
    }

    /** "a HEIGHT that .. makes h not 1 .. 24", when h is 0 */
    private static void firstHeight() {
        fine("C1 H1 W2 P W-", "2x1");
        fine("C1 H2 W2 P W-", "2x2");
        fine("C1 H23 W2 P W-", "2x23");
        fine("C1 H24 W2 P W-", "2x24");
        fine("C1 H^24 W2 P W-", "2x24");
        broken("C1 H0 W2 P W-");
        broken("C1 H-1 W2 P W-");
        broken("C1 H25 W2 P W-");
        broken("C1 H33 W2 P W-");
        broken("C1 H-24 W2 P W-");
        broken("C1 H256 W2");
        broken("C1 H2147483647 W2");
        broken("C1 H-2147483647 W2");
        broken("C1 H^0 W2 P W-");
        broken("C1 H^25 W2 P W-");
    }

    /** The same, when h is something else already. */
    private static void laterHeight() {
        fine("C2 H3 W2 P W- H-2 W2 P W-", "2x3 2x1");
        fine("C2 H3 W2 P W- H21 W2 P W-", "2x3 2x24");
        fine("C3 H24 W2 P W- H-23 W1 P W- H23 W1 P W-", "2x24 1x1 1x24");
        broken("C2 H3 W2 P W- H-3 W2 P W-");
        broken("C2 H3 W2 P W- H22 W2 P W-");
        broken("C2 H1 W2 P W- H-1 W2 P W-");
        broken("C2 H1 W2 P W- H-2 W2 P W-");
        broken("C2 H24 W2 P W- H1 W2 P W-");
        broken("C2 H24 W2 P W- H-24 W2 P W-");
        broken("C2 H24 W2 P W- H2147483647 W2 P W-");
        broken("C2 H24 W2 P W- H-2147483647 W2 P W-");
        broken("C2 H1 W2 P W- H-2147483647 W2 P W-");
        broken("C3 H3 W2 P W- H3 W2 P W- H19 W1 P W-");
    }

    /** "a WIDTH that makes w not 1 .. 24", when w is 0, for the first height and a later one */
    private static void firstWidth() {
        String[] before = {"C1 H2", "C2 H2 W20 P W- H0", "C2 H3 W24 P W- H-1"};
        String[] sides = {"", "20x2 ", "24x3 "};
        for (int i = 0; i < before.length; i++) {
            int[] all = {1, 2, 23, 24};
            for (int w : all) {
                fine(before[i] + " W" + w + " P W-", sides[i] + w + "x2");
            }
            fine(before[i] + " W^24 P W-", sides[i] + "24x2");
            String[] none = {"W0", "W-1", "W25", "W33", "W-19", "W-24", "W256", "W2147483647", "W-2147483647", "W^0",
                "W^25"};
            for (String width : none) {
                broken(before[i] + " " + width + " P W-");
            }
        }
    }

    /** The same, when w is something else already. */
    private static void laterWidth() {
        fine("C2 H2 W5 P W-4 P W-", "5x2 1x2");
        fine("C2 H2 W5 P W19 P W-", "5x2 24x2");
        fine("C3 H1 W24 P W-23 P W23 P W-", "24x1 1x1 24x1");
        broken("C2 H2 W5 P W-5 P W-");
        broken("C2 H2 W5 P W20 P W-");
        broken("C2 H2 W1 P W-1 P W-");
        broken("C2 H2 W1 P W-2 P W-");
        broken("C2 H2 W24 P W1 P W-");
        broken("C2 H2 W24 P W-24 P W-");
        broken("C2 H2 W24 P W2147483647 P W-");
        broken("C2 H2 W24 P W-2147483647 P W-");
        broken("C2 H2 W1 P W-2147483647 P W-");
        broken("C3 H2 W5 P W5 P W15 P W-");
    }

    /** "NO NUMBER as a WIDTH before the first symbol of a height" */
    private static void noWidthBeforeTheFirstSymbol() {
        broken("C1 H2 W- H0 W3 P W-");
        broken("C1 H2 W~ H0 W3 P W-");
        broken("C1 H2 W- W3 P W-");
        broken("C2 H2 W3 P W- H1 W- H0 W3 P W-");
        broken("C2 H2 W3 P W- H0 W- H0 W3 P W-");
        broken("C2 H2 W3 P W- H1 W~ H0 W3 P W-");
        fine("C2 H2 W3 P W~ H1 W3 P W~", "3x2 3x3");
    }

    /** "a number as a WIDTH behind the last symbol of all" */
    private static void numberBehindTheLastSymbol() {
        String[] behind = {"W0", "W1", "W-1", "W-2", "W21", "W22", "W100000", "W2147483647", "W-2147483647", "W^0",
            "W^1"};
        for (String width : behind) {
            broken("C1 H2 W3 P " + width);
            broken("C1 H2 W3 P " + width + " P W-");
            broken("C2 H2 W3 P W0 P " + width);
            broken("C2 H2 W1 P W- H1 W3 P " + width);
            broken("C8 H1 W1 P W0 P W0 P W0 P W0 P W0 P W0 P W2 P " + width);
        }
    }

    /** A number 0 is a number. */
    private static void heightsAndWidthsThatStay() {
        fine("C2 H2 W3 P W0 P W-", "3x2 3x2");
        fine("C2 H2 W3 P W- H0 W3 P W-", "3x2 3x2");
        fine("C3 H2 W3 P W- H0 W1 P W- H0 W4 P W-", "3x2 1x2 4x2");
    }

    /** "the coder is idle then, and there are no symbols and marks": and all of it can be used again. */
    private static void afterBroken() {
        InkCoder ink = holding("C1 H25");
        int length = ink.length();
        ink.begin(false);
        Check.due("broken", ink.dictionary(), InkCoder.BROKEN);
        Check.due("broken: state", ink.state(), IDLE);
        Check.wrongState("broken: end()", ink::end);
        Check.wrongState("broken: dictionary()", ink::dictionary);
        Check.wrongState("broken: number", () -> ink.number(0, 0));
        Check.due("broken: put", ink.put(1), true);
        Check.due("broken: cut", ink.cut(length), true);
        Check.due("broken: learn", ink.learn(2), 0);
        Check.due("broken: mark", ink.mark(0, 0, -100), 1);
        ink.begin(false);
        Check.due("broken once more", ink.dictionary(), InkCoder.BROKEN);
        ink.learn(2);
        ink.begin(true);
        Check.due("written", ink.dictionary(), 1);
    }

    /** Eight symbols and twelve marks go, when it is read as when it is broken. */
    private static void whatWasThereIsGone() {
        String[] all = {"C0", "C1 H2 W3 P W-", "C9"};
        int[] due = {0, 1, InkCoder.BROKEN};
        for (int i = 0; i < all.length; i++) {
            InkCoder ink = new InkCoder();
            for (int k = 0; k < 8; k++) {
                ink.learn(k % 4);
            }
            for (int k = 0; k < 12; k++) {
                ink.mark(k % 8, k, k);
            }
            Made.put(ink, all[i]);
            ink.begin(false);
            Check.due(all[i], ink.dictionary(), due[i]);
            Check.due(all[i] + ": symbols", Sight.symbols(ink), Math.max(0, due[i]));
            Check.due(all[i] + ": marks", Sight.marks(ink), 0);
        }
    }
}
