/** A test for each sentence of promises 9 to 13, 16, 17 and 20 that names a boundary. */
final class BoundaryForecast {
    private static final int[] FAR = {Integer.MIN_VALUE, Integer.MAX_VALUE, -1};
    /** No fractions: above, below. */
    private static final long[][] NO_FRACTIONS = {{-1, 1}, {-1, 1000}, {2, 1}, {1000, 999}, {1001, 1000}, {0, 0}, {1, 0}, {0, 1001}, {1, 1001},
        {1001, 1001}, {0, -1}, {-1, -1}, {-2, -1}, {1L << 32, 1L << 32}, {0, 1L << 32}, {1, (1L << 32) + 2}, {1L << 32, 2},
        {(1L << 32) + 1, (1L << 32) + 2}, {Long.MIN_VALUE, 1}, {Long.MAX_VALUE, 1}, {0, Long.MIN_VALUE}, {0, Long.MAX_VALUE},
        {Long.MAX_VALUE, Long.MAX_VALUE}, {Long.MIN_VALUE, Long.MIN_VALUE}};
    /** The edges of what is one. */
    private static final long[][] FRACTIONS = {{0, 1}, {1, 1}, {0, 1000}, {1, 1000}, {999, 1000}, {1000, 1000}, {0, 999}, {997, 999}};

    static final Check.Call[] TESTS = {
        BoundaryForecast::at,
        BoundaryForecast::atOfNone,
        BoundaryForecast::start,
        BoundaryForecast::startOfOthers,
        BoundaryForecast::startInstead,
        BoundaryForecast::startOfMore,
        BoundaryForecast::startOfNone,
        BoundaryForecast::worksInAYear,
        BoundaryForecast::worksOfNone,
        BoundaryForecast::worksOfNoFraction,
        BoundaryForecast::worksOfSameStates,
        BoundaryForecast::worksTooMany,
        BoundaryForecast::events,
        BoundaryForecast::sums,
        BoundaryForecast::sumsOfNone,
        BoundaryForecast::worthOfAState,
        BoundaryForecast::worthOfNoState,
        BoundaryForecast::worth,
        BoundaryForecast::worthBelowNought,
        BoundaryForecast::worthSign,
        BoundaryForecast::worthBelowTheSign,
        BoundaryForecast::worthOfNone,
        BoundaryForecast::target,
        BoundaryForecast::targetOfNone,
        BoundaryForecast::targetTooLong,
    };

    private BoundaryForecast() {
    }

    private static void at() {
        Check.sentence("Promise 9", "What a state has in a year, foretold, by parts.");
        StateShares x = new StateShares(2);
        Check.walk(x, 0, 0, 0, 0, 1);
        for (int year = 0; year < 12; year++) {
            Check.at(x, 0, year, 1, 1L << year);
            Check.at(x, 1, year, (1L << year) - 1, 1L << year);
        }
        int[] parts = {2, 3, 4, -1, -2, Integer.MIN_VALUE, Integer.MAX_VALUE, 1 << 30};
        for (int part : parts) {
            Check.due("at(1, 11, " + part + ")", 0, x.at(1, 11, part));
        }
        Check.throwsIndex("at(2, 0, 0)", () -> x.at(2, 0, 0));
        Check.throwsIndex("at(-1, 12, 0)", () -> x.at(-1, 12, 0));
    }

    private static void atOfNone() {
        Check.sentence("Promise 9", "BAD: no such year; too long.");
        StateShares x = new StateShares(2);
        int[] none = {-1, 12, 13, Integer.MIN_VALUE, Integer.MAX_VALUE};
        int[] parts = {0, 1, 2, -1, -5, Integer.MIN_VALUE, Integer.MAX_VALUE};
        for (int part : parts) {
            for (int year : none) {
                Check.due("at(0, " + year + ", " + part + ")", -1, x.at(0, year, part));
            }
        }
        Check.halve(x, 600);
        for (int part : parts) {
            Check.yes("year 2 stands", x.at(0, 2, part) >= 0);
            for (int year = 3; year < 12; year++) {
                Check.due("too long: at(1, " + year + ", " + part + ")", -1, x.at(1, year, part));
            }
        }
        // Nothing is left to be halved, so that no year is too long any more.
        Check.yes("start(1, 1, 3)", x.start(1, 1, 3));
        Check.at(x, 0, 3, 0, 1);
        Check.at(x, 1, 11, 1, 3);
    }

    private static void start() {
        Check.sentence("Promise 10", "What a state has at year 0: above by below (0 <= above <= below <= 1,000, below not 0);");
        long[][] least = {{0, 1}, {1, 1}, {0, 1}, {1, 1000}, {999, 1000}, {1, 1}, {0, 1}, {997, 999}};
        StateShares x = new StateShares(3);
        for (int i = 0; i < FRACTIONS.length; i++) {
            for (int s = 0; s < 3; s++) {
                Check.yes("start", x.start(s, FRACTIONS[i][0], FRACTIONS[i][1]));
                Check.at(x, s, 0, least[i][0], least[i][1]);
                Check.at(x, s, 11, least[i][0], least[i][1]);
            }
        }
    }

    private static void startOfOthers() {
        Check.sentence("Promise 10", "from the first one told on others have 0, if nothing was told of them");
        StateShares x = new StateShares(3);
        Check.at(x, 0, 0, 1, 1);
        Check.yes("start(2, 1, 3)", x.start(2, 1, 3));
        Check.at(x, 0, 0, 0, 1);
        Check.at(x, 1, 0, 0, 1);
        Check.at(x, 2, 0, 1, 3);
        Check.yes("start(0, 1, 7)", x.start(0, 1, 7));
        Check.at(x, 0, 0, 1, 7);
        Check.at(x, 2, 0, 1, 3);
        StateShares y = new StateShares(3);
        // Even one of 0 is told.
        Check.yes("start(1, 0, 1)", y.start(1, 0, 1));
        for (int s = 0; s < 3; s++) {
            Check.at(y, s, 0, 0, 1);
            Check.at(y, s, 11, 0, 1);
        }
        StateShares z = new StateShares(3);
        Check.yes("start(0, 1, 2)", z.start(0, 1, 2));
        Check.yes("start(1, 1, 3)", z.start(1, 1, 3));
        Check.at(z, 0, 0, 1, 2);
    }

    private static void startInstead() {
        Check.sentence("Promise 10", "(of one that was told before: instead;");
        StateShares x = new StateShares(2);
        x.start(1, 1, 3);
        x.start(0, 1, 5);
        Check.yes("start(1, 2, 7)", x.start(1, 2, 7));
        Check.at(x, 1, 0, 2, 7);
        Check.at(x, 0, 0, 1, 5);
        Check.yes("start(1, 0, 9)", x.start(1, 0, 9));
        Check.at(x, 1, 11, 0, 1);
        Check.at(x, 0, 11, 1, 5);
    }

    private static void startOfMore() {
        Check.sentence("Promise 10", "all together may be more than 1).");
        StateShares x = new StateShares(6);
        for (int s = 0; s < 6; s++) {
            Check.yes("start(" + s + ", 1, 1)", x.start(s, 1, 1));
        }
        for (int s = 0; s < 6; s++) {
            Check.at(x, s, 0, 1, 1);
            Check.yes("all to 5", s == 5 || x.works(10, s, 5, 1, 1));
        }
        Check.at(x, 5, 11, 6, 1);
        Check.no("6 is not 1", x.sums(11));
    }

    private static void startOfNone() {
        Check.sentence("Promise 10", "False: no such state or fraction.");
        StateShares x = new StateShares(3);
        int[] none = {-1, 3, Integer.MIN_VALUE, Integer.MAX_VALUE};
        for (int s : none) {
            Check.no("start of " + s, x.start(s, 1, 2));
        }
        for (long[] f : NO_FRACTIONS) {
            Check.no("start(0, " + f[0] + ", " + f[1] + ")", x.start(0, f[0], f[1]));
            Check.no("start(2, " + f[0] + ", " + f[1] + ")", x.start(2, f[0], f[1]));
        }
        Check.at(x, 0, 0, 1, 1);
        Check.at(x, 2, 0, 0, 1);
        x.start(1, 1, 2);
        for (long[] f : NO_FRACTIONS) {
            Check.no("start(1, " + f[0] + ", " + f[1] + ")", x.start(1, f[0], f[1]));
        }
        Check.at(x, 1, 0, 1, 2);
    }

    private static void worksInAYear() {
        Check.sentence("Promise 11", "Works in a year (0 .. 10): a part of what a state has goes to another one.");
        for (int year = 0; year <= 10; year++) {
            StateShares x = new StateShares(2);
            Check.yes("works(" + year + ", ..)", x.works(year, 0, 1, 1, 3));
            Check.at(x, 0, year, 1, 1);
            Check.at(x, 0, year + 1, 2, 3);
            Check.at(x, 1, 11, 1, 3);
        }
        for (long[] f : FRACTIONS) {
            StateShares x = new StateShares(2);
            Check.yes("works of " + f[0] + " by " + f[1], x.works(4, 0, 1, f[0], f[1]));
            x.part2(1, 999000);
            Check.worth(x, 5, f[0] == 0 ? 0 : 1, 999000 * f[0] / f[1], f[1] == 999 || 999000 * f[0] % f[1] == 0 ? 1 : f[1]);
        }
    }

    private static void worksOfNone() {
        Check.sentence("Promise 11", "False: none such,");
        StateShares x = new StateShares(3);
        int[] noYears = {-1, 11, 12, Integer.MIN_VALUE, Integer.MAX_VALUE};
        int[] noStates = {-1, 3, 6, Integer.MIN_VALUE, Integer.MAX_VALUE};
        for (int i = 0; i < noYears.length; i++) {
            Check.no("works in " + noYears[i], x.works(noYears[i], 0, 1, 1, 2));
            Check.no("works from " + noStates[i], x.works(0, noStates[i], 1, 1, 2));
            Check.no("works to " + noStates[i], x.works(0, 0, noStates[i], 1, 2));
        }
        dueUntouched(x);
    }

    private static void dueUntouched(StateShares x) {
        for (int year = 0; year < 12; year++) {
            Check.at(x, 0, year, 1, 1);
        }
    }

    private static void worksOfNoFraction() {
        Check.sentence("Promise 11", "no such fraction (as above),");
        StateShares x = new StateShares(3);
        for (long[] f : NO_FRACTIONS) {
            Check.no("works of " + f[0] + " by " + f[1], x.works(0, 0, 1, f[0], f[1]));
        }
        dueUntouched(x);
        for (int i = 0; i < 12; i++) {
            Check.yes("they do not count: works " + i, x.works(0, 0, 1, 0, 1));
        }
    }

    private static void worksOfSameStates() {
        Check.sentence("Promise 11", "the same states;");
        StateShares x = new StateShares(6);
        for (int s = 0; s < 6; s++) {
            Check.no("works from " + s + " to " + s, x.works(0, s, s, 1, 2));
            Check.no("works from " + s + " to " + s, x.works(0, s, s, 0, 1));
        }
        dueUntouched(x);
        for (int i = 0; i < 12; i++) {
            Check.yes("they do not count: works " + i, x.works(0, 0, 1, 0, 1));
        }
    }

    private static void worksTooMany() {
        Check.sentence("Promise 11", "12 of that year were told (events count for themselves).");
        StateShares x = new StateShares(2);
        int[] years = {0, 10, 5};
        for (int year : years) {
            for (int i = 0; i < 12; i++) {
                Check.yes("event " + i + " of " + year, x.event(year, 1, 0, 0, 1));
            }
            for (int i = 0; i < 12; i++) {
                Check.yes("works " + i + " of " + year, x.works(year, 0, 1, 1, 2));
            }
            Check.no("works 12 of " + year, x.works(year, 0, 1, 1, 2));
            Check.no("works 12 of " + year, x.works(year, 1, 0, 0, 1));
        }
        Check.at(x, 0, 1, 1, 1L << 12);
        Check.at(x, 0, 6, 1, 1L << 24);
        Check.at(x, 0, 11, 1, 1L << 36);
        Check.yes("another year", x.works(9, 0, 1, 1, 2));
    }

    private static void events() {
        Check.sentence("Promise 12", "An event in a year, like works.");
        for (int year = 0; year <= 10; year++) {
            StateShares x = new StateShares(2);
            Check.yes("event(" + year + ", ..)", x.event(year, 0, 1, 1, 3));
            Check.at(x, 0, year, 1, 1);
            Check.at(x, 0, year + 1, 2, 3);
        }
        StateShares x = new StateShares(3);
        for (int far : FAR) {
            Check.no("event in " + far, x.event(far, 0, 1, 1, 2));
            Check.no("event from " + far, x.event(0, far, 1, 1, 2));
            Check.no("event to " + far, x.event(0, 0, far, 1, 2));
        }
        Check.no("event in 11", x.event(11, 0, 1, 1, 2));
        Check.no("event from 3", x.event(0, 3, 1, 1, 2));
        Check.no("event to 3", x.event(0, 0, 3, 1, 2));
        Check.no("the same states", x.event(0, 1, 1, 1, 2));
        for (long[] f : NO_FRACTIONS) {
            Check.no("event of " + f[0] + " by " + f[1], x.event(0, 0, 1, f[0], f[1]));
        }
        dueUntouched(x);
        for (int i = 0; i < 12; i++) {
            Check.yes("works " + i, x.works(0, 1, 0, 0, 1));
        }
        for (int i = 0; i < 12; i++) {
            Check.yes("event " + i, x.event(0, 0, 1, 1, 2));
        }
        Check.no("event 12", x.event(0, 0, 1, 1, 2));
        Check.at(x, 0, 1, 1, 4096);
        for (long[] f : FRACTIONS) {
            Check.yes("event of " + f[0] + " by " + f[1], x.event(3, 0, 1, f[0], f[1]));
        }
        Check.at(x, 0, 4, 0, 1);
    }

    private static void sums() {
        Check.sentence("Promise 13", "Whether what all states have in a year is 1 together.");
        StateShares x = new StateShares(3);
        Check.yes("sums(0)", x.sums(0));
        Check.yes("sums(11)", x.sums(11));
        x.start(0, 1, 3);
        Check.no("less", x.sums(0));
        x.start(1, 1, 3);
        x.start(2, 333, 1000);
        Check.no("a 3,000th less", x.sums(0));
        x.start(2, 334, 1000);
        Check.no("a bit more", x.sums(0));
        x.start(2, 1, 3);
        Check.yes("just 1", x.sums(0));
        x.works(10, 0, 1, 997, 1000);
        x.event(3, 2, 0, 1, 991);
        Check.walk(x, 0, 0, 0, 1, 1, 2, 2, 0, 0);
        Check.yes("just 1, in the last year", x.sums(11));
        x.start(2, 1, 1);
        Check.no("more", x.sums(11));
        StateShares y = new StateShares(2);
        y.start(0, 0, 1);
        Check.no("nothing at all", y.sums(0));
        StateShares z = new StateShares(2);
        Check.halve(z, 599);
        Check.yes("600 bits", z.sums(11));
    }

    private static void sumsOfNone() {
        Check.sentence("Promise 13", "False also: no such year, too long.");
        StateShares x = new StateShares(2);
        int[] none = {-1, 12, Integer.MIN_VALUE, Integer.MAX_VALUE};
        for (int year : none) {
            Check.no("sums(" + year + ")", x.sums(year));
        }
        Check.halve(x, 600);
        Check.yes("sums(2)", x.sums(2));
        for (int year = 3; year < 12; year++) {
            Check.no("too long: sums(" + year + ")", x.sums(year));
        }
    }

    private static void worthOfAState() {
        Check.sentence("Promise 16", "A state's worth, - 1,000,000 .. 1,000,000 (0 at first).");
        StateShares x = new StateShares(6);
        for (int s = 0; s < 6; s++) {
            x.start(s, 1, 1);
        }
        Check.worth(x, 0, 0, 0, 1);
        int[] worths = {1000000, -1000000, 999999, -999999, 1, -1, 0};
        for (int s = 0; s < 6; s++) {
            for (int worth : worths) {
                Check.yes("part2(" + s + ", " + worth + ")", x.part2(s, worth));
                Check.worth(x, 0, Integer.signum(worth), Math.abs(worth), 1);
            }
        }
        for (int s = 0; s < 6; s++) {
            x.part2(s, 1000000);
        }
        Check.worth(x, 11, 1, 6000000, 1);
    }

    private static void worthOfNoState() {
        Check.sentence("Promise 16", "False: none such.");
        StateShares x = new StateShares(3);
        x.part2(0, 77);
        int[] noStates = {-1, 3, Integer.MIN_VALUE, Integer.MAX_VALUE};
        for (int s : noStates) {
            Check.no("part2(" + s + ", 1)", x.part2(s, 1));
        }
        long[] none = {1000001, -1000001, 1L << 32, (1L << 32) + 5, -(1L << 32), Long.MIN_VALUE, Long.MAX_VALUE, Integer.MIN_VALUE};
        for (long worth : none) {
            Check.no("part2(0, " + worth + ")", x.part2(0, worth));
        }
        Check.worth(x, 0, 1, 77, 1);
    }

    private static void worth() {
        Check.sentence("Promise 17", "The worth of a year foretold, what states have times their worths together;");
        StateShares x = new StateShares(3);
        x.works(0, 0, 1, 1, 2);
        x.works(0, 0, 2, 1, 3);
        // Behind year 0: 1/3, 1/2, 1/6.
        x.part2(0, 1);
        Check.worth(x, 0, 1, 1, 1);
        Check.worth(x, 1, 1, 1, 3);
        x.part2(2, 1);
        Check.worth(x, 1, 1, 1, 2);
        x.part2(1, -1);
        Check.worth(x, 1, 0, 0, 1);
        x.part2(1, -1000000);
        Check.worth(x, 11, -1, 999999, 2);
        StateShares y = new StateShares(2);
        y.start(0, 0, 1);
        y.part2(0, 1000000);
        Check.worth(y, 0, 0, 0, 1);
    }

    private static void worthBelowNought() {
        Check.sentence("Promise 17", "by parts (of one below 0 without its sign),");
        StateShares x = new StateShares(2);
        for (int i = 0; i < 6; i++) {
            x.works(0, 0, 1, 999, 1000);
        }
        // 10^-18 in 0.
        x.part2(1, -1);
        Check.due("upper of - (10^18 - 1) by 10^18", 999999999999999999L, x.worth(1, 0));
        Check.due("lower", 0, x.worth(1, 1));
        Check.due("upper, next", 0, x.worth(1, 2));
        Check.due("lower, next", 1, x.worth(1, 3));
        x.part2(1, -3);
        Check.due("upper of - (3 10^18 - 3) by 10^18", 999999999999999997L, x.worth(1, 0));
        Check.due("upper, next", 2, x.worth(1, 2));
        Check.due("lower, next", 1, x.worth(1, 3));
        Check.due("behind the last", 0, x.worth(1, 4));
        Check.due("behind the last", 0, x.worth(1, 5));
        Check.due("behind the last", 0, x.worth(1, Integer.MAX_VALUE));
    }

    private static void worthSign() {
        Check.sentence("Promise 17", "but part - 1: its sign (- 1, 0, 1;");
        StateShares x = new StateShares(2);
        Check.due("of 0", 0, x.worth(0, -1));
        x.part2(0, 1000000);
        Check.due("above 0", 1, x.worth(0, -1));
        x.part2(0, -1000000);
        Check.due("below 0", -1, x.worth(0, -1));
        x.works(0, 0, 1, 1, 1000);
        x.part2(0, -1000);
        x.part2(1, 999000);
        Check.due("just 0", 0, x.worth(1, -1));
        x.part2(1, 999001);
        Check.due("just above", 1, x.worth(1, -1));
        x.part2(1, 998999);
        Check.due("just below", -1, x.worth(1, -1));
    }

    private static void worthBelowTheSign() {
        Check.sentence("Promise 17", "parts below that 0).");
        StateShares x = new StateShares(2);
        x.part2(0, -5);
        int[] parts = {-2, -3, -4, -18, Integer.MIN_VALUE, Integer.MIN_VALUE + 1};
        for (int part : parts) {
            Check.due("worth(0, " + part + ")", 0, x.worth(0, part));
            Check.due("worth(11, " + part + ")", 0, x.worth(11, part));
        }
    }

    private static void worthOfNone() {
        Check.sentence("Promise 17", "BAD: no such year, too long.");
        StateShares x = new StateShares(2);
        x.part2(0, 3);
        x.part2(1, 3);
        int[] none = {-1, 12, Integer.MIN_VALUE, Integer.MAX_VALUE};
        int[] parts = {-2, -1, 0, 1, 2, Integer.MIN_VALUE, Integer.MAX_VALUE};
        for (int part : parts) {
            for (int year : none) {
                Check.due("worth(" + year + ", " + part + ")", -1, x.worth(year, part));
            }
        }
        Check.halve(x, 600);
        Check.worth(x, 2, 1, 3, 1);
        for (int part : parts) {
            for (int year = 3; year < 12; year++) {
                Check.due("too long: worth(" + year + ", " + part + ")", -1, x.worth(year, part));
            }
        }
    }

    private static void target() {
        Check.sentence("Promise 20", "The first year (from 0 on) in which that state and those with greater numbers have together "
            + "at least above by below (as of start()).");
        StateShares x = new StateShares(3);
        for (int year = 0; year < 11; year++) {
            x.works(year, 0, 1, 1, 2);
        }
        x.works(10, 1, 2, 1, 1);
        Check.due("0 is there at year 0", 0, x.target(2, 0, 1));
        Check.due("0 of 1,000", 0, x.target(1, 0, 1000));
        Check.due("all at year 0", 0, x.target(0, 1000, 1000));
        Check.due("just a half", 1, x.target(1, 500, 1000));
        Check.due("more than a half", 2, x.target(1, 501, 1000));
        Check.due("less than a half", 1, x.target(1, 499, 1000));
        Check.due("just 511 by 512", 9, x.target(1, 511, 512));
        Check.due("999 by 1,000", 10, x.target(1, 999, 1000));
        Check.due("all behind 0", -1, x.target(1, 1, 1));
        Check.due("in the last year", 11, x.target(2, 1, 1000));
        StateShares y = new StateShares(3);
        y.start(1, 1, 3);
        y.start(2, 1, 6);
        Check.due("together a half", 0, y.target(1, 1, 2));
        Check.due("2 alone has less", -1, y.target(2, 1, 2));
        Check.due("2 alone", 0, y.target(2, 1, 6));
        y.start(1, 1, 1);
        y.start(2, 1, 1);
        Check.due("more than 1 together", 0, y.target(0, 1, 1));
    }

    private static void targetOfNone() {
        Check.sentence("Promise 20", "BAD: no such state, fraction or year");
        StateShares x = new StateShares(3);
        int[] noStates = {-1, 3, Integer.MIN_VALUE, Integer.MAX_VALUE};
        for (int s : noStates) {
            Check.due("target of " + s, -1, x.target(s, 0, 1));
        }
        for (long[] f : NO_FRACTIONS) {
            Check.due("target(0, " + f[0] + ", " + f[1] + ")", -1, x.target(0, f[0], f[1]));
        }
        Check.due("no such year", -1, x.target(1, 1, 1000));
        Check.due("those that are", 0, x.target(1, 0, 1000));
    }

    private static void targetTooLong() {
        Check.sentence("Promise 20", "(a year that is too long is none).");
        StateShares x = new StateShares(3);
        x.start(0, 1, 1);
        x.start(2, 1, 2);
        Check.halve(x, 599);
        x.works(5, 1, 2, 1, 1);
        Check.due("in a year that is just not too long", 6, x.target(2, 1, 1));
        Check.due("one bit more, in year 2", 1, x.event(2, 0, 1, 1, 2) ? 1 : 0);
        Check.due("only in a year that is too long", -1, x.target(2, 1, 1));
        Check.due("before that", 1, x.target(1, 1, 1));
        Check.due("at year 0", 0, x.target(2, 1, 2));
    }
}
