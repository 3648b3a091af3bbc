/** Counts and prints answers that are not as due; a test ends by finish(). */
final class Check {
    private static int asked = 0;
    private static int wrong = 0;

    private Check() {
    }

    interface Call {
        void run();
    }

    static void due(String call, long want, long got) {
        asked++;
        if (got != want) {
            wrong++;
            System.out.println(call + " answered " + got + ", due is " + want);
        }
    }

    static void yes(String call, boolean got) {
        due(call, 1, got ? 1 : 0);
    }

    static void no(String call, boolean got) {
        due(call, 0, got ? 1 : 0);
    }

    /** The call must throw the index exception, and no other one. */
    static void throwsIndex(String call, Call body) {
        asked++;
        String seen = "nothing";
        try {
            body.run();
        } catch (RuntimeException e) {
            seen = e.getClass().getName();
        }
        if (!seen.equals("java.lang.ArrayIndexOutOfBoundsException")) {
            wrong++;
            System.out.println(call + " threw " + seen + ", due is ArrayIndexOutOfBoundsException");
        }
    }

    /** Collects a text; every sign must be taken. */
    static void collect(StateShares x, String text) {
        for (int i = 0; i < text.length(); i++) {
            yes("unit(" + (int) text.charAt(i) + ") of \"" + text + "\"", x.unit(text.charAt(i)));
        }
    }

    static void grade(StateShares x, String text, int want) {
        collect(x, text);
        due("grade() of \"" + text + "\"", want, x.grade());
    }

    static void finish() {
        System.out.println(asked + " answers, " + wrong + " not as due");
        if (wrong != 0) {
            System.exit(1);
        }
    }
}
