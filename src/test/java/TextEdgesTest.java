/** Promise 23, the edges of what is read: each way to answer BROKEN, and what is just not broken. */
public final class TextEdgesTest {
    private static final int IDLE = 0;
    private static final int READING = 2;
    private static final int UPPER_LEFT = 1;
    private static final int OR = 0;
    private static final int THE_SAME = 3;

    public static void main(String[] args) {
        count();
        rowThatIsNone();
        rowsThatAreTooFar();
        firstThatIsNone();
        firstsGoOnFromFirsts();
        indexes();
        for (int corner = 0; corner < 4; corner++) {
            places(corner, false);
            places(corner, true);
        }
        placesThatWrap();
        numberBehindTheLastMark();
        rowsInAnyOrder();
        nothingIsDrawn();
        afterBroken();
        whatWasThereIsGone();
        Check.done();
    }

    /** An object with boards, two symbols of 3 times 2 and 1 times 4, and these bytes in CODE. */
    private static InkCoder holding(String items) {
        InkCoder ink = new InkCoder();
        Sight.set(ink, 0, "1", "1", "1", "1");
        Sight.set(ink, 2, "111", "111");
        ink.learn(2);
        ink.learn(0);
        ink.size(1, 7, 6);
        ink.flip(1, 6, 5);
        Made.put(ink, items);
        return ink;
    }

    private static void broken(String items, int corner, boolean turned) {
        InkCoder ink = holding(items);
        ink.mark(1, 2, 3);
        ink.begin(false);
        String what = items + " by corner " + corner + (turned ? ", turned" : "");
        Check.due(what, ink.text(1, corner, turned, THE_SAME), InkCoder.BROKEN);
        Check.due(what + ": what is left", Sight.of(ink), Sight.of(holding(items)));
    }

    private static void broken(String items) {
        broken(items, UPPER_LEFT, false);
    }

    /** The marks that are due, as in "0 4 9, 1 5 6". */
    private static InkCoder fine(String items, int corner, boolean turned, String due) {
        InkCoder ink = holding(items + " N5");
        ink.mark(1, 2, 3);
        ink.begin(false);
        String what = items + " by corner " + corner + (turned ? ", turned" : "");
        Check.due(what, ink.text(1, corner, turned, OR), due.isEmpty() ? 0 : due.split(", ").length);
        Check.due(what + ": state", ink.state(), READING);
        Check.due(what + ": what is behind", ink.number(0, 0), 5);
        StringBuilder marks = new StringBuilder();
        int count = Sight.marks(ink);
        for (int k = 0; k < count; k++) {
            marks.append(k == 0 ? "" : ", ").append(Sight.mark(ink, k));
        }
        Check.due(what + ": marks", marks.toString(), due);
        Check.due(what + ": symbols", Sight.symbols(ink), 2);
        return ink;
    }

    private static InkCoder fine(String items, String due) {
        return fine(items, UPPER_LEFT, false, due);
    }

    /** "a COUNT was read that is no number 0 .. 12" */
    private static void count() {
        StringBuilder items = new StringBuilder("R2 F3 I1");
        StringBuilder due = new StringBuilder("1 3 2");
        fine("C0", "");
        for (int count = 1; count <= 12; count++) {
            fine("C" + count + " " + items + " G-", due.toString());
            items.append(" G0 I1");
            due.append(", 1 3 2");
        }
        broken("C13 " + items + " G-");
        broken("C-1");
        broken("C-12 " + items + " G-");
        broken("C-");
        broken("C~");
        broken("C256");
        broken("C268 " + items + " G-");
        broken("C2147483647");
        broken("C-2147483647");
        broken("C^13 " + items + " G-");
        broken("C^-1");
        fine("C^0", "");
        fine("C^1 R2 F3 I1 G-", "1 3 2");
        fine("C12 R0 F0 I0 G- R1 F0 I0 G- R1 F0 I0 G- R1 F0 I0 G- R1 F0 I0 G- R1 F0 I0 G- R1 F0 I0 G- R1 F0 I0 G- "
                + "R1 F0 I0 G- R1 F0 I0 G- R1 F0 I0 G- R89 F0 I0 G-",
                "0 0 0, 0 0 1, 0 0 2, 0 0 3, 0 0 4, 0 0 5, 0 0 6, 0 0 7, 0 0 8, 0 0 9, 0 0 10, 0 0 99");
    }

    /** "a ROW that is none" */
    private static void rowThatIsNone() {
        broken("C1 R- F0 I0 G-");
        broken("C1 R- R0 F0 I0 G-");
        broken("C1 R~ F0 I0 G-");
        broken("C2 R1 F0 I0 G- R- F0 I0 G-");
        broken("C2 R1 F0 I0 G- R~ F0 I0 G-");
    }

    /** "a ROW that .. makes t not -100 .. 100" */
    private static void rowsThatAreTooFar() {
        fine("C1 R100 F0 I0 G-", "0 0 100");
        fine("C1 R-100 F0 I0 G-", "0 0 -100");
        fine("C1 R^100 F0 I0 G-", "0 0 100");
        fine("C1 R0 F0 I0 G-", "0 0 0");
        broken("C1 R101 F0 I0 G-");
        broken("C1 R-101 F0 I0 G-");
        broken("C1 R^101 F0 I0 G-");
        broken("C1 R2147483647 F0 I0 G-");
        broken("C1 R-2147483647 F0 I0 G-");
        fine("C3 R100 F0 I0 G- R-200 F0 I0 G- R200 F0 I0 G-", "0 0 100, 0 0 -100, 0 0 100");
        broken("C2 R100 F0 I0 G- R1 F0 I0 G-");
        broken("C2 R100 F0 I0 G- R-201 F0 I0 G-");
        broken("C2 R-100 F0 I0 G- R-1 F0 I0 G-");
        broken("C2 R-100 F0 I0 G- R201 F0 I0 G-");
        broken("C2 R100 F0 I0 G- R2147483647 F0 I0 G-");
        broken("C2 R-100 F0 I0 G- R-2147483647 F0 I0 G-");
        broken("C3 R50 F0 I0 G- R50 F0 I0 G- R50 F0 I0 G-");
    }

    /** "a FIRST that is none" */
    private static void firstThatIsNone() {
        broken("C1 R0 F- I0 G-");
        broken("C1 R0 F- F0 I0 G-");
        broken("C1 R0 F~ I0 G-");
        broken("C2 R0 F4 I0 G- R1 F- I0 G-");
        broken("C2 R0 F4 I0 G- R1 F~ I0 G-");
        fine("C1 R0 F0 I0 G-", "0 0 0");
        fine("C1 R0 F^3 I0 G-", "0 3 0");
        fine("C1 R0 F^-3 I0 G-", "0 -3 0");
    }

    /** "how much f becomes greater": f does not move with c. */
    private static void firstsGoOnFromFirsts() {
        fine("C4 R0 F4 I0 G3 I1 G- R1 F2 I0 G- R1 F-6 I1 G-", "0 4 0, 1 9 0, 0 6 1, 1 0 2");
    }

    /** "an INDEX that is no symbol's" */
    private static void indexes() {
        for (int symbols = 0; symbols <= 8; symbols++) {
            for (int index = 0; index < 8; index++) {
                InkCoder ink = new InkCoder();
                for (int k = 0; k < 8; k++) {
                    ink.learn(0);
                }
                ink.forget();
                for (int k = 0; k < symbols; k++) {
                    ink.learn(0);
                }
                Made.put(ink, "C1 R0 F0 I" + index + " G-");
                ink.begin(false);
                String what = "INDEX " + index + " of " + symbols;
                boolean fine = index < symbols;
                Check.due(what, ink.text(0, 0, false, 0), fine ? 1 : InkCoder.BROKEN);
                Check.due(what + ": state", ink.state(), fine ? READING : IDLE);
                if (fine) {
                    Check.due(what + ": marked(0, 0)", ink.marked(0, 0), index);
                }
            }
        }
        broken("C2 R0 F0 I0 G0 I2 G-");
        broken("C2 R0 F0 I0 G- R1 F0 I7 G-");
    }

    /** "S is not -1000 .. 1000": it is S that counts, whatever c is before it and behind it. */
    private static void places(int corner, boolean turned) {
        int extent = turned ? 1 : 2;
        boolean far = turned ? corner == 0 || corner == 2 : corner >= 2;
        int before = far ? extent : 0;
        int behind = far ? 0 : extent;
        int[] fine = {1000, 999, -1000, -999};
        for (int s : fine) {
            fine("C1 R0 F" + (s - before) + " I0 G-", corner, turned, "0 " + s + " 0");
            fine("C2 R0 F" + (5 - before) + " I0 G" + (s - before - 5 - behind) + " I0 G-", corner, turned,
                    "0 5 0, 0 " + s + " 0");
            fine("C2 R0 F" + (s - before) + " I0 G" + (-s - before - s - behind) + " I0 G-", corner, turned,
                    "0 " + s + " 0, 0 " + -s + " 0");
            fine("C2 R0 F" + (s - before) + " I0 G- R1 F" + -2 * s + " I0 G-", corner, turned,
                    "0 " + s + " 0, 0 " + -s + " 1");
        }
        int[] tooFar = {1001, -1001, 1002, -1002, 100000};
        for (int s : tooFar) {
            broken("C1 R0 F" + (s - before) + " I0 G-", corner, turned);
            broken("C2 R0 F" + (5 - before) + " I0 G" + (s - before - 5 - behind) + " I0 G-", corner, turned);
            broken("C2 R0 F0 I0 G- R1 F" + (s - before) + " I0 G-", corner, turned);
        }
    }

    /** Numbers that make c as long as an int can be. */
    private static void placesThatWrap() {
        String[] numbers = {"2147483647", "-2147483647", "2147483646", "1073741824"};
        for (String number : numbers) {
            for (int corner = 0; corner < 4; corner++) {
                broken("C1 R0 F" + number + " I0 G-", corner, false);
                broken("C2 R0 F3 I0 G" + number + " I0 G-", corner, false);
                broken("C2 R0 F900 I0 G- R0 F" + number + " I0 G-", corner, true);
                broken("C2 R0 F-900 I0 G- R0 F" + number + " I0 G-", corner, true);
            }
        }
        fine("C2 R0 F3 I0 G^2 I0 G-", "0 3 0, 0 7 0");
    }

    /** "a number was read as a GAP behind the last mark of all" */
    private static void numberBehindTheLastMark() {
        String[] behind = {"G0", "G1", "G-1", "G500", "G2147483647", "G-2147483647", "G^0"};
        for (String gap : behind) {
            broken("C1 R0 F0 I0 " + gap);
            broken("C1 R0 F0 I0 " + gap + " I0 G-");
            broken("C2 R0 F0 I0 G0 I1 " + gap);
            broken("C2 R0 F0 I0 G- R1 F0 I1 " + gap);
            broken("C12 R0 F0 I0 G0 I1 G0 I1 G0 I1 G0 I1 G0 I1 G0 I1 G0 I1 G0 I1 G0 I1 G0 I1 G0 I1 " + gap);
        }
        fine("C1 R0 F0 I0 G~", "0 0 0");
        fine("C2 R0 F0 I0 G~ R1 F0 I0 G~", "0 0 0, 0 0 1");
    }

    /** "Other rows may come in any order": also one with the T that was there. */
    private static void rowsInAnyOrder() {
        InkCoder ink = fine("C4 R9 F4 I0 G- R-3 F1 I0 G- R0 F1 I0 G- R-7 F0 I1 G-", "0 4 9, 0 5 6, 0 6 6, 1 6 -1");
        Check.wrongArgument("mark above the latest one", () -> ink.mark(0, 0, -2));
        Check.due("mark beside the latest one", ink.mark(0, 0, -1), 5);
        ink.begin(true);
        Check.due("they are written, too", ink.text(3, UPPER_LEFT, false, OR), 5);
        ink.end();
        // rows with one T come together, for each of the next marks that have it belongs to the row
        Check.due("their bytes", Sight.bytes(ink),
                Made.bytes("C5 R9 F4 I0 G- R-3 F1 I0 G-1 I0 G- R-7 F1 I1 G-6 I0 G-"));
    }

    /** "nothing is drawn": also of the marks before the one that is broken. */
    private static void nothingIsDrawn() {
        broken("C2 R1 F1 I0 G0 I7 G-");
        broken("C2 R1 F1 I0 G0 I1 G3");
        broken("C2 R1 F1 I0 G- R1 F- I0 G-");
        InkCoder ink = fine("C2 R1 F1 I0 G0 I1 G-", "0 1 1, 1 3 1");
        Check.due("drawn", Sight.rows(ink, 1), "0000000\n0111000\n0111000\n0001000\n0001000\n0000001\n");
        InkCoder beside = fine("C4 R1 F7 I0 G- R0 F-10 I0 G- R5 F3 I0 G- R-10 F3 I1 G-",
                "0 7 1, 0 -3 1, 0 0 6, 1 3 -4");
        Check.due("drawn beside the board", Sight.rows(beside, 1),
                "0000000\n0000000\n0000000\n0000000\n0000000\n0000001\n");
    }

    /** "the coder is idle then, there are no marks" */
    private static void afterBroken() {
        InkCoder ink = holding("C13");
        ink.mark(0, 1, 50);
        int length = ink.length();
        ink.begin(false);
        Check.due("broken", ink.text(1, 0, false, 0), InkCoder.BROKEN);
        Check.due("broken: state", ink.state(), IDLE);
        Check.wrongState("broken: end()", ink::end);
        Check.wrongState("broken: text", () -> ink.text(1, 0, false, 0));
        Check.due("broken: put", ink.put(1), true);
        Check.due("broken: cut", ink.cut(length), true);
        Check.due("broken: symbols stay", ink.symbol(1, -2, 0), 4);
        Check.due("broken: mark", ink.mark(0, 0, -100), 1);
        Check.due("broken: learn", ink.learn(2), 2);
        ink.begin(true);
        Check.due("written", ink.text(1, 0, false, 0), 1);
    }

    /** Twelve marks go, when it is read as when it is broken; eight symbols stay. */
    private static void whatWasThereIsGone() {
        String[] all = {"C0", "C1 R0 F3 I7 G-", "C13"};
        int[] due = {0, 1, InkCoder.BROKEN};
        for (int i = 0; i < all.length; i++) {
            InkCoder ink = new InkCoder();
            for (int k = 0; k < 8; k++) {
                ink.learn(k % 4);
            }
            for (int k = 0; k < 12; k++) {
                ink.mark(k % 8, k, k);
            }
            Made.put(ink, all[i]);
            ink.begin(false);
            Check.due(all[i], ink.text(0, 0, false, 0), due[i]);
            Check.due(all[i] + ": symbols", Sight.symbols(ink), 8);
            Check.due(all[i] + ": marks", Sight.marks(ink), Math.max(0, due[i]));
        }
    }
}
