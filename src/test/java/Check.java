import java.util.ArrayList;
import java.util.List;

/** Counts and prints answers that are not as due; a test ends by finish(). */
final class Check {
    /** Words of the document, and the section in which they stand. */
    record Quote(String section, String words) {
    }

    private static final List<Quote> QUOTES = new ArrayList<>();
    private static int asked = 0;
    private static int wrong = 0;
    private static int askedBeforeQuote = 0;
    private static String about = "";

    private Check() {
    }

    interface Call {
        void run();
    }

    /** What follows tests these words of the document; they are named where an answer is wrong. */
    static void sentence(String section, String words) {
        QUOTES.add(new Quote(section, words));
        about = section + ", \"" + words + "\": ";
        askedBeforeQuote = asked;
    }

    /** Runs tests of one sentence each; what one throws does not keep the others from running. */
    static void runAll(Call[] tests) {
        for (Call test : tests) {
            try {
                test.run();
            } catch (RuntimeException e) {
                tell("a call threw " + e);
            }
            endSentence();
        }
    }

    private static void endSentence() {
        if (!about.isEmpty() && asked == askedBeforeQuote) {
            tell("nothing was asked");
        }
        about = "";
    }

    static List<Quote> quotes() {
        return QUOTES;
    }

    private static void tell(String fault) {
        wrong++;
        System.out.println(about + fault);
    }

    static void due(String call, long want, long got) {
        asked++;
        if (got != want) {
            tell(call + " answered " + got + ", due is " + want);
        }
    }

    static void yes(String call, boolean got) {
        due(call, 1, got ? 1 : 0);
    }

    static void no(String call, boolean got) {
        due(call, 0, got ? 1 : 0);
    }

    /** The call must throw the index exception, and no other one. */
    static void throwsIndex(String call, Call body) {
        asked++;
        String seen = "nothing";
        try {
            body.run();
        } catch (RuntimeException e) {
            seen = e.getClass().getName();
        }
        if (!seen.equals("java.lang.ArrayIndexOutOfBoundsException")) {
            tell(call + " threw " + seen + ", due is ArrayIndexOutOfBoundsException");
        }
    }

    /** Collects a text; every sign must be taken. */
    static void collect(StateShares x, String text) {
        for (int i = 0; i < text.length(); i++) {
            yes("unit(" + (int) text.charAt(i) + ") of \"" + text + "\"", x.unit(text.charAt(i)));
        }
    }

    static void grade(StateShares x, String text, int want) {
        collect(x, text);
        due("grade() of \"" + text + "\"", want, x.grade());
    }

    /** Marks of person 0 on a thing, year by year; -1 leaves a year out. */
    static void walk(StateShares x, int thing, int firstYear, int... states) {
        for (int i = 0; i < states.length; i++) {
            if (states[i] >= 0) {
                yes("mark(" + thing + ", " + (firstYear + i) + ", 0, " + states[i] + ")",
                    x.mark(thing, firstYear + i, 0, states[i]));
            }
        }
    }

    static void at(StateShares x, int state, int year, long above, long below) {
        due("at(" + state + ", " + year + ", 0)", above, x.at(state, year, 0));
        due("at(" + state + ", " + year + ", 1)", below, x.at(state, year, 1));
    }

    static void share(StateShares x, int from, int to, long above, long below) {
        due("share(" + from + ", " + to + ", 0)", above, x.share(from, to, 0));
        due("share(" + from + ", " + to + ", 1)", below, x.share(from, to, 1));
    }

    static void worth(StateShares x, int year, int sign, long above, long below) {
        due("worth(" + year + ", -1)", sign, x.worth(year, -1));
        due("worth(" + year + ", 0)", above, x.worth(year, 0));
        due("worth(" + year + ", 1)", below, x.worth(year, 1));
    }

    /** Leaves 2^-bits of what state 0 has and brings the rest to state 1, in years from 0 on. */
    static void halve(StateShares x, int bits) {
        int left = bits;
        for (int i = 0; left > 0; i++) {
            int below = 1 << Math.min(9, left);
            yes("halving " + i, i % 24 < 12 ? x.works(i / 24, 0, 1, below - 1, below) : x.event(i / 24, 0, 1, below - 1, below));
            left -= 9;
        }
    }

    static void finish() {
        System.out.println(asked + " answers, " + wrong + " not as due");
        if (wrong != 0) {
            System.exit(1);
        }
    }
}
