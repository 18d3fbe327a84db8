/** What the tests say an answer has to be; a test ends with done(). */
final class Check {

    interface Act {
        void act();
    }

    private static int wrong = 0;

    private Check() {
    }

    static void due(String what, long got, long want) {
        if (got != want) {
            wrong++;
            System.out.println(what + " answered " + got + ", due is " + want);
        }
    }

    static void due(String what, boolean got, boolean want) {
        due(what, got ? 1 : 0, want ? 1 : 0);
    }

    static void due(String what, String got, String want) {
        if (!got.equals(want)) {
            wrong++;
            System.out.println(what + " gave\n" + got + "\ndue is\n" + want);
        }
    }

    /** The exception has to be of just this class: the library's own kinds are not thrown on purpose. */
    static void refused(String what, Class<? extends RuntimeException> want, Act act) {
        String got = "nothing";
        try {
            act.act();
        } catch (RuntimeException e) {
            got = e.getClass().getSimpleName();
        }
        due(what + " throws", got, want.getSimpleName());
    }

    static void outOfBounds(String what, Act act) {
        refused(what, IndexOutOfBoundsException.class, act);
    }

    static void wrongArgument(String what, Act act) {
        refused(what, IllegalArgumentException.class, act);
    }

    static void wrongState(String what, Act act) {
        refused(what, IllegalStateException.class, act);
    }

    static void unsupported(String what, Act act) {
        refused(what, UnsupportedOperationException.class, act);
    }

    /** Ends what the plain coder wrote; the object has ended already. */
    static void sameBytes(String what, InkCoder ink, PlainCoder plain) {
        plain.endWriting();
        due(what + ": length()", ink.length(), plain.code.size());
        for (int i = 0; i < ink.length() && i < plain.code.size(); i++) {
            due(what + ": code(" + i + ")", ink.code(i), plain.code.get(i));
        }
    }

    static void done() {
        System.out.println(wrong == 0 ? "all answers are as due" : wrong + " answers are not as due");
        if (wrong != 0) {
            System.exit(1);
        }
    }
}
