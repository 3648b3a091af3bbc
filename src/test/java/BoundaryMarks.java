/** A test for each sentence of promises 1, 2, 18, 21 and 22 that names a boundary. */
final class BoundaryMarks {
    static final Check.Call[] TESTS = {
        BoundaryMarks::statesAsTold,
        BoundaryMarks::tooFewStates,
        BoundaryMarks::tooManyStates,
        BoundaryMarks::mark,
        BoundaryMarks::markOfNone,
        BoundaryMarks::compared,
        BoundaryMarks::comparedInLeastTerms,
        BoundaryMarks::comparedParts,
        BoundaryMarks::comparedToNothing,
        BoundaryMarks::comparedOfNone,
        BoundaryMarks::missing,
        BoundaryMarks::missingOfNone,
        BoundaryMarks::kind,
        BoundaryMarks::kindOfNone,
    };

    private BoundaryMarks() {
    }

    private static void dueStates(int told, int n) {
        StateShares x = new StateShares(told);
        String name = "of " + told + ": ";
        Check.yes(name + "the last state", x.mark(0, 0, 0, n - 1));
        Check.throwsIndex(name + "one more", () -> x.mark(0, 0, 0, n));
        Check.due(name + "graded to the last", n - 1, x.graded(0, 0));
        Check.due(name + "what the last has", 0, x.at(n - 1, 0, 0));
        Check.throwsIndex(name + "what one more has", () -> x.at(n, 0, 0));
        Check.yes(name + "start of the last", x.start(n - 1, 1, 1));
        Check.no(name + "start of one more", x.start(n, 1, 1));
        Check.grade(x, "" + (n - 1), 1);
        Check.grade(x, "" + n, -1);
    }

    private static void statesAsTold() {
        Check.sentence("Promise 1", "n is states,");
        for (int n = 2; n <= 6; n++) {
            dueStates(n, n);
        }
    }

    private static void tooFewStates() {
        Check.sentence("Promise 1", "but 2 if that is less,");
        int[] few = {1, 0, -1, -6, Integer.MIN_VALUE};
        for (int states : few) {
            dueStates(states, 2);
        }
    }

    private static void tooManyStates() {
        Check.sentence("Promise 1", "6 if more.");
        int[] many = {7, 8, 256 + 3, 65536 + 3, Integer.MAX_VALUE};
        for (int states : many) {
            dueStates(states, 6);
        }
    }

    private static void mark() {
        Check.sentence("Promise 2", "A mark.");
        StateShares x = new StateShares(6);
        int[][] corners = {{0, 0, 0, 0}, {9, 0, 0, 1}, {0, 11, 0, 2}, {0, 0, 3, 3}, {9, 11, 3, 5}};
        for (int[] c : corners) {
            Check.yes("mark(" + c[0] + ", " + c[1] + ", " + c[2] + ", " + c[3] + ")", x.mark(c[0], c[1], c[2], c[3]));
            Check.due("graded(" + c[0] + ", " + c[1] + ")", c[3], x.graded(c[0], c[1]));
        }
        Check.due("a place beside them", -1, x.graded(9, 10));
        Check.throwsIndex("a mark of no state", () -> x.mark(9, 11, 3, 6));
        Check.throwsIndex("a mark of no state", () -> x.mark(9, 10, 3, -1));
        Check.due("the old mark stays", 5, x.graded(9, 11));
        Check.due("and no new one is there", -1, x.graded(9, 10));
    }

    private static void markOfNone() {
        Check.sentence("Promise 2", "False: no such thing, year or person.");
        StateShares x = new StateShares(6);
        int[] far = {Integer.MIN_VALUE, Integer.MAX_VALUE, Integer.MIN_VALUE / 2, 1 << 28, -1};
        int[][] none = {{10, 0, 0}, {0, 12, 0}, {0, 0, 4}, {-1, 12, 0}, {1, -1, 0}, {10, 12, 4}};
        for (int state = -1; state <= 6; state++) {
            for (int f : far) {
                Check.no("thing " + f + ", state " + state, x.mark(f, 0, 0, state));
                Check.no("year " + f + ", state " + state, x.mark(0, f, 0, state));
                Check.no("person " + f + ", state " + state, x.mark(0, 0, f, state));
            }
            for (int[] a : none) {
                Check.no("mark(" + a[0] + ", " + a[1] + ", " + a[2] + ", " + state + ")", x.mark(a[0], a[1], a[2], state));
            }
        }
        for (int thing = 0; thing < 10; thing++) {
            for (int year = 0; year < 12; year++) {
                Check.due("no mark came of it: graded(" + thing + ", " + year + ")", -1, x.graded(thing, year));
            }
        }
    }

    private static void see(StateShares x, int place, int byFirst, int bySecond) {
        Check.yes("mark", x.mark(place / 12, place % 12, 0, byFirst));
        Check.yes("mark", x.mark(place / 12, place % 12, 3, bySecond));
    }

    private static void due(StateShares x, String why, long above, long below) {
        Check.due(why + ", agree(0, 3, 0)", above, x.agree(0, 3, 0));
        Check.due(why + ", agree(0, 3, 1)", below, x.agree(0, 3, 1));
        Check.due(why + ", agree(3, 0, 0)", above, x.agree(3, 0, 0));
        Check.due(why + ", agree(3, 0, 1)", below, x.agree(3, 0, 1));
    }

    private static void compared() {
        Check.sentence("Promise 18", "Two persons compared, over all things and years that both marked:");
        StateShares x = new StateShares(6);
        see(x, 0, 5, 5);
        see(x, 119, 0, 1);
        // m 2, a 1, e 0 + 0 + 1: 1 by 3.
        due(x, "the first and the last place", 1, 3);
        for (int year = 1; year < 11; year++) {
            x.mark(4, year, 0, 5);
            x.mark(5, year, 3, 1);
            x.mark(6, year, 1, 1);
            x.mark(6, year, 2, 1);
        }
        due(x, "places that one marked, or others, do not count", 1, 3);
        Check.grade(x, "0", 1);
        due(x, "nor do rules", 1, 3);
        x.mark(9, 11, 3, 0);
        // m 2, a 2, e 1 + 1.
        due(x, "a new mark in the old one's place", 1, 1);
    }

    private static void comparedInLeastTerms() {
        Check.sentence("Promise 18", "with m such ones, a of them the same, and e the sum over all states of how often the one saw it "
            + "times how often the other did: m a - e by m m - e, in least terms:");
        StateShares x = new StateShares(6);
        see(x, 0, 0, 1);
        // m 1, a 0, e 0.
        due(x, "0 by 1", 0, 1);
        see(x, 1, 1, 0);
        // m 2, a 0, e 2: the least that can be.
        due(x, "- 2 by 2", -1, 1);
        see(x, 2, 5, 5);
        // m 3, a 1, e 3.
        due(x, "0 by 6", 0, 1);
        see(x, 3, 5, 0);
        // m 4, a 1, e 1 x 2 + 1 x 1 + 2 x 1.
        due(x, "- 1 by 11", -1, 11);
        see(x, 3, 5, 5);
        // m 4, a 2, e 1 + 1 + 4.
        due(x, "2 by 10", 1, 5);
        StateShares y = new StateShares(6);
        for (int place = 0; place < 120; place++) {
            see(y, place, place % 6, place % 6);
        }
        // All 120 places: m a 14,400, e 6 x 400.
        due(y, "12,000 by 12,000", 1, 1);
        see(y, 119, 5, 4);
        // a 119, e 2,400 + 20 x (21 - 20) + 20 x (19 - 20).
        due(y, "11,880 by 12,000", 99, 100);
    }

    private static void comparedParts() {
        Check.sentence("Promise 18", "part 0 upper, 1 lower (above 0).");
        StateShares x = new StateShares(3);
        see(x, 0, 0, 1);
        see(x, 1, 1, 2);
        see(x, 2, 0, 0);
        // m 3, a 1, e 2 x 1 + 1 x 1: 0 by 6.
        due(x, "0 by 6", 0, 1);
        see(x, 2, 0, 2);
        // m 3, a 0, e 2 x 0 + 1 x 1: the sign is above, not below.
        due(x, "- 1 by 8", -1, 8);
    }

    private static void comparedToNothing() {
        Check.sentence("Promise 18", "0 for both, if m m is e.");
        StateShares x = new StateShares(6);
        due(x, "no marks", 0, 0);
        x.mark(0, 0, 0, 1);
        x.mark(0, 1, 3, 1);
        due(x, "no place that both marked", 0, 0);
        StateShares y = new StateShares(6);
        for (int place = 0; place < 60; place++) {
            see(y, place, 4, 4);
            due(y, "all the same and one state alone", 0, 0);
        }
        see(y, 60, 4, 3);
        // m 61, a 60, e 61 x 60: 0 by 61.
        due(y, "one of another state", 0, 1);
    }

    private static void comparedOfNone() {
        Check.sentence("Promise 18", "BAD: no such persons or part, or the same.");
        StateShares x = new StateShares(3);
        for (int round = 0; round < 2; round++) {
            int[] none = {-1, 4, 5, Integer.MIN_VALUE, Integer.MAX_VALUE};
            for (int a : none) {
                Check.due("agree(" + a + ", 1, 0)", -1, x.agree(a, 1, 0));
                Check.due("agree(1, " + a + ", 1)", -1, x.agree(1, a, 1));
                Check.due("agree(" + a + ", " + a + ", 0)", -1, x.agree(a, a, 0));
            }
            int[] noParts = {-1, 2, 3, Integer.MIN_VALUE, Integer.MAX_VALUE};
            for (int part : noParts) {
                Check.due("agree(0, 3, " + part + ")", -1, x.agree(0, 3, part));
            }
            for (int a = 0; a < 4; a++) {
                Check.due("agree(" + a + ", " + a + ", 0)", -1, x.agree(a, a, 0));
                Check.due("agree(" + a + ", " + a + ", 1)", -1, x.agree(a, a, 1));
            }
            see(x, 0, 0, 1);
        }
        due(x, "those that are", 0, 1);
    }

    private static void missing() {
        Check.sentence("Promise 21", "Place k, things first and then years, where a thing is not graded, "
            + "but was in a year before and is in a later one: 16 times the thing and the year.");
        StateShares x = new StateShares(2);
        x.mark(0, 0, 0, 0);
        x.mark(0, 11, 0, 0);
        x.mark(9, 11, 0, 0);
        x.mark(9, 9, 0, 0);
        x.mark(5, 3, 0, 0);
        x.mark(5, 4, 0, 0);
        x.mark(7, 0, 0, 0);
        x.mark(8, 11, 0, 0);
        for (int k = 0; k < 10; k++) {
            Check.due("missing(" + k + ")", 1 + k, x.missing(k));
        }
        Check.due("missing(10), of the last thing", 16 * 9 + 10, x.missing(10));
        Check.due("missing(11)", -1, x.missing(11));
        x.mark(0, 1, 3, 1);
        Check.due("one less", 2, x.missing(0));
        Check.due("one less", 16 * 9 + 10, x.missing(9));
        Check.due("one less", -1, x.missing(10));
        x.mark(5, 7, 0, 0);
        Check.due("between", 16 * 5 + 5, x.missing(9));
        Check.due("between", 16 * 5 + 6, x.missing(10));
        StateShares y = new StateShares(2);
        for (int thing = 0; thing < 10; thing++) {
            y.mark(thing, 0, 0, 0);
            y.mark(thing, 11, 0, 0);
        }
        for (int k = 0; k < 100; k++) {
            Check.due("of all that can be, missing(" + k + ")", 16 * (k / 10) + 1 + k % 10, y.missing(k));
        }
        Check.due("missing(100)", -1, y.missing(100));
    }

    private static void missingOfNone() {
        Check.sentence("Promise 21", "BAD: there is none.");
        StateShares x = new StateShares(2);
        Check.due("nothing is marked", -1, x.missing(0));
        x.mark(0, 5, 0, 0);
        Check.due("years before and behind one alone", -1, x.missing(0));
        x.mark(0, 6, 0, 0);
        Check.due("none between", -1, x.missing(0));
        x.mark(1, 0, 0, 0);
        Check.due("none between two things", -1, x.missing(0));
        x.mark(0, 8, 0, 0);
        Check.due("one", 7, x.missing(0));
        int[] none = {-1, 1, 2, 100, Integer.MIN_VALUE, Integer.MAX_VALUE};
        for (int k : none) {
            Check.due("missing(" + k + ")", -1, x.missing(k));
        }
    }

    private static void kind() {
        Check.sentence("Promise 22", "A thing's kind.");
        StateShares x = new StateShares(5);
        for (int k = 0; k < 4; k++) {
            Check.yes("kind(" + k + ", " + k + ")", x.kind(k, k));
            Check.yes("mark", x.mark(k, 0, 0, 4 - k));
        }
        for (int k = 0; k < 4; k++) {
            Check.yes("kind(9, " + k + ")", x.kind(9, k));
            Check.due("as the thing of kind " + k, 4 - k, x.drawn(1, 9, 0));
        }
        Check.yes("kind(0, 3)", x.kind(0, 3));
        Check.due("another one of kind 3, with a lower number", 4, x.drawn(1, 9, 0));
    }

    private static void kindOfNone() {
        Check.sentence("Promise 22", "False: none such.");
        StateShares x = new StateShares(2);
        x.mark(3, 0, 0, 1);
        int[] none = {-1, 4, 5, Integer.MIN_VALUE, Integer.MAX_VALUE, 256, 1 << 16};
        for (int k : none) {
            Check.no("kind(8, " + k + ")", x.kind(8, k));
        }
        int[] noThings = {-1, 10, Integer.MIN_VALUE, Integer.MAX_VALUE};
        for (int thing : noThings) {
            Check.no("kind(" + thing + ", 1)", x.kind(thing, 1));
        }
        for (int thing = 0; thing < 10; thing++) {
            Check.due("all kinds stay: " + thing, 1, x.drawn(1, thing, 0));
        }
    }
}
