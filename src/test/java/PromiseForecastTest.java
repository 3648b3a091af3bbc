/** Promises 9 (at), 10 (start), 11 (works), 12 (event) and 13 (sums). */
public final class PromiseForecastTest {
    public static void main(String[] args) {
        atFirst();
        parts();
        start();
        worksAndEvents();
        wrongTransfers();
        moreOfAYearThanTwelve();
        tooLong();
        tooLongAbove();
        shortAgainWithinAYear();
        sums();
        farApartShares();
        Check.finish();
    }

    private static void atFirst() {
        StateShares x = new StateShares(3);
        for (int year = 0; year < 12; year++) {
            Check.at(x, 0, year, 1, 1);
            Check.at(x, 1, year, 0, 1);
        }
        Check.due("at(0, -1, 0)", -1, x.at(0, -1, 0));
        Check.due("at(0, 12, 0)", -1, x.at(0, 12, 0));
        Check.due("at(0, 12, -7)", -1, x.at(0, 12, -7));
        // Half of 0 goes to 1, all of 1 to 2, 2 stays.
        x.mark(0, 0, 0, 0);
        x.mark(0, 1, 0, 0);
        x.mark(0, 2, 0, 1);
        x.mark(0, 3, 0, 2);
        Check.at(x, 0, 1, 1, 2);
        Check.at(x, 1, 1, 1, 2);
        Check.at(x, 2, 1, 0, 1);
        Check.at(x, 0, 2, 1, 4);
        Check.at(x, 1, 2, 1, 4);
        Check.at(x, 2, 2, 1, 2);
        Check.at(x, 2, 11, 1023, 1024);
        x.mark(0, 1, 0, 1);
        x.mark(0, 2, 0, 0);
        Check.at(x, 0, 1, 0, 1);
        x.least(50);
        // Steps 1, -1, 2: from 0 to 1 and 2 by halves.
        Check.at(x, 1, 1, 1, 2);
        Check.at(x, 2, 1, 1, 2);
    }

    private static void parts() {
        StateShares x = new StateShares(2);
        // State 0 keeps a thousandth each time: 10^-36 behind the first year.
        for (int i = 0; i < 12; i++) {
            Check.yes("works", x.works(0, 0, 1, 999, 1000));
        }
        long[] upper = {1, 0, 0};
        long[] lower = {0, 0, 1};
        long[] upperRest = {999999999999999999L, 999999999999999999L, 0};
        for (int k = 0; k < 3; k++) {
            Check.due("upper of 10^-36, part " + 2 * k, upper[k], x.at(0, 1, 2 * k));
            Check.due("lower of 10^-36, part " + (2 * k + 1), lower[k], x.at(0, 1, 2 * k + 1));
            Check.due("upper of the rest, part " + 2 * k, upperRest[k], x.at(1, 1, 2 * k));
            Check.due("lower of the rest, part " + (2 * k + 1), lower[k], x.at(1, 1, 2 * k + 1));
        }
        int[] none = {-1, -2, Integer.MIN_VALUE, 6, 7, 41, 42, 43, 44, 223, 224, 1 << 30, (1 << 30) + 1, Integer.MAX_VALUE};
        for (int part : none) {
            Check.due("at(1, 1, " + part + ")", 0, x.at(1, 1, part));
        }
    }

    private static void start() {
        StateShares x = new StateShares(3);
        long[][] wrong = {{-1, 1, 1}, {3, 1, 1}, {0, -1, 1}, {0, 2, 1}, {0, 0, 0}, {0, 1, 1001}, {0, -1, -1}, {0, 0, -1},
            {0, 1L << 32, 1L << 32}, {0, Long.MIN_VALUE, Long.MAX_VALUE}};
        for (long[] a : wrong) {
            Check.no("start(" + a[0] + ", " + a[1] + ", " + a[2] + ")", x.start((int) a[0], a[1], a[2]));
        }
        Check.at(x, 0, 0, 1, 1);
        Check.yes("start(2, 250, 1000)", x.start(2, 250, 1000));
        Check.at(x, 0, 0, 0, 1);
        Check.at(x, 1, 0, 0, 1);
        Check.at(x, 2, 0, 1, 4);
        Check.yes("start(0, 2, 3)", x.start(0, 2, 3));
        Check.at(x, 0, 0, 2, 3);
        Check.at(x, 2, 0, 1, 4);
        Check.yes("start(2, 1, 1), instead", x.start(2, 1, 1));
        Check.at(x, 2, 0, 1, 1);
        Check.at(x, 2, 11, 1, 1);
        Check.at(x, 0, 11, 2, 3);
        Check.yes("start(0, 0, 1000)", x.start(0, 0, 1000));
        Check.at(x, 0, 0, 0, 1);
        StateShares y = new StateShares(3);
        Check.yes("start(0, 0, 1)", y.start(0, 0, 1));
        Check.at(y, 0, 5, 0, 1);
        Check.at(y, 1, 5, 0, 1);
    }

    private static void worksAndEvents() {
        StateShares x = new StateShares(3);
        // All of 0 goes to 1 by itself.
        x.mark(0, 0, 0, 0);
        x.mark(0, 1, 0, 1);
        Check.yes("works(0, 0, 2, 1, 3)", x.works(0, 0, 2, 1, 3));
        Check.at(x, 0, 0, 1, 1);
        Check.at(x, 0, 1, 0, 1);
        Check.at(x, 1, 1, 2, 3);
        Check.at(x, 2, 1, 1, 3);
        Check.yes("event(0, 1, 0, 1, 2)", x.event(0, 1, 0, 1, 2));
        Check.at(x, 0, 1, 1, 3);
        Check.at(x, 1, 1, 1, 3);
        // In the order in which they were told: a third to 2 first, then half of that back.
        Check.yes("works(0, 2, 0, 1, 2)", x.works(0, 2, 0, 1, 2));
        Check.at(x, 2, 1, 1, 6);
        Check.at(x, 0, 1, 5, 12);
        Check.at(x, 1, 1, 5, 12);
        Check.yes("event(10, 2, 1, 1, 1)", x.event(10, 2, 1, 1, 1));
        Check.at(x, 2, 10, 1, 6);
        Check.at(x, 2, 11, 0, 1);
        Check.yes("works(10, 1, 2, 0, 7)", x.works(10, 1, 2, 0, 7));
        Check.at(x, 2, 11, 0, 1);
        Check.yes("works of all", x.works(3, 2, 1, 5, 5));
        Check.at(x, 2, 3, 1, 6);
        Check.at(x, 2, 4, 0, 1);
    }

    private static void wrongTransfers() {
        StateShares x = new StateShares(3);
        long[][] wrong = {{-1, 0, 1, 1, 2}, {11, 0, 1, 1, 2}, {0, -1, 1, 1, 2}, {0, 3, 1, 1, 2}, {0, 0, -1, 1, 2}, {0, 0, 3, 1, 2},
            {0, 1, 1, 1, 2}, {0, 0, 1, -1, 2}, {0, 0, 1, 3, 2}, {0, 0, 1, 0, 0}, {0, 0, 1, 1, 1001}, {0, 0, 1, -2, -1}};
        for (long[] a : wrong) {
            Check.no("works of none such", x.works((int) a[0], (int) a[1], (int) a[2], a[3], a[4]));
            Check.no("event of none such", x.event((int) a[0], (int) a[1], (int) a[2], a[3], a[4]));
        }
        for (int year = 0; year < 12; year++) {
            Check.at(x, 0, year, 1, 1);
        }
    }

    private static void moreOfAYearThanTwelve() {
        StateShares x = new StateShares(2);
        for (int i = 0; i < 12; i++) {
            Check.yes("works number " + i, x.works(4, 0, 1, 1, 2));
        }
        Check.no("works number 12", x.works(4, 0, 1, 1, 2));
        Check.at(x, 0, 5, 1, 4096);
        Check.yes("works of another year", x.works(5, 0, 1, 1, 2));
        for (int i = 0; i < 12; i++) {
            Check.yes("event number " + i, x.event(4, 0, 1, 1, 2));
        }
        Check.no("event number 12", x.event(4, 0, 1, 1, 2));
        Check.at(x, 0, 4, 1, 1);
        Check.at(x, 0, 5, 1, 4096 * 4096);
    }

    /** Leaves 2^-9 of what state 0 has, so often, 24 times a year at most. */
    private static void halveByNines(StateShares x, int nines) {
        for (int i = 0; i < nines; i++) {
            Check.yes("halving", i % 24 < 12 ? x.works(i / 24, 0, 1, 511, 512) : x.event(i / 24, 0, 1, 511, 512));
        }
    }

    private static void tooLong() {
        StateShares x = new StateShares(3);
        // 2^-594 behind 66 times; 48 of them are in years 0 and 1.
        halveByNines(x, 66);
        Check.yes("five more", x.event(2, 0, 1, 31, 32));
        // 2^599 has 600 bits: 4149515568880992958... / 2.
        Check.due("at(0, 3, 0)", 1, x.at(0, 3, 0));
        Check.due("its last part", 2, x.at(0, 3, 21));
        Check.due("the one before", 74757784440496479L, x.at(0, 3, 19));
        Check.due("at(0, 11, 0)", 1, x.at(0, 11, 0));
        Check.yes("sums(3)", x.sums(3));
        Check.yes("one bit more", x.works(5, 0, 1, 1, 2));
        Check.due("the year before", 1, x.at(0, 5, 0));
        int[] parts = {-1, 0, 1, 21, 500};
        for (int part : parts) {
            for (int year = 6; year < 12; year++) {
                Check.due("too long: at(0, " + year + ", " + part + ")", -1, x.at(0, year, part));
                Check.due("for all states", -1, x.at(2, year, part));
            }
        }
        Check.no("sums of a year too long", x.sums(6));
        Check.due("worth of a year too long", -1, x.worth(6, 0));
        Check.due("worth of a year too long", -1, x.worth(6, -1));
        Check.due("no target there", -1, x.target(2, 1, 1));
        Check.yes("all back to 0, later", x.works(7, 1, 0, 1, 1));
        Check.due("all behind it stay too long", -1, x.at(0, 8, 0));
        Check.yes("all back to 0, before", x.event(4, 1, 0, 1, 1));
        Check.at(x, 0, 5, 1, 1);
        Check.at(x, 0, 6, 1, 2);
        Check.at(x, 0, 8, 1, 1);
        Check.throwsIndex("a state that there is not", () -> x.at(3, 6, 0));
    }

    private static void tooLongAbove() {
        StateShares x = new StateShares(6);
        for (int s = 0; s < 6; s++) {
            Check.yes("start with 1 each", x.start(s, 1, 1));
        }
        for (int s = 2; s < 6; s++) {
            Check.yes("all to 1", x.works(3, s, 1, 1, 1));
        }
        halveByNines(x, 66);
        Check.yes("three more", x.event(2, 0, 1, 7, 8));
        // State 1 has 6 - 2^-597, of which the upper part has 600 bits.
        Check.yes("year 4 stands", x.at(1, 4, 0) >= 0);
        Check.yes("one more", x.event(3, 0, 1, 1, 2));
        Check.due("601 bits above, 599 below", -1, x.at(1, 4, 0));
        Check.yes("year 3 stands", x.at(1, 3, 0) >= 0);
    }

    private static void shortAgainWithinAYear() {
        StateShares x = new StateShares(2);
        halveByNines(x, 70);
        Check.due("behind 70 times too long", -1, x.at(0, 3, 0));
        Check.yes("all back in the same year", x.event(2, 1, 0, 1, 1));
        Check.at(x, 0, 3, 1, 1);
    }

    private static void sums() {
        StateShares x = new StateShares(3);
        Check.no("sums(-1)", x.sums(-1));
        Check.no("sums(12)", x.sums(12));
        for (int year = 0; year < 12; year++) {
            Check.yes("sums(" + year + ")", x.sums(year));
        }
        x.works(1, 0, 2, 1, 7);
        x.event(3, 2, 1, 2, 9);
        Check.yes("sums(11)", x.sums(11));
        x.start(0, 1, 3);
        Check.no("a third alone", x.sums(0));
        Check.no("a third alone", x.sums(11));
        x.start(1, 1, 2);
        Check.no("five sixths", x.sums(5));
        x.start(2, 1, 6);
        Check.yes("all together", x.sums(0));
        Check.yes("all together", x.sums(11));
        x.start(2, 167, 1000);
        Check.no("more than 1", x.sums(0));
    }

    /** Shares of one group with lower parts 98, 99, 103, 101, 97 and 95; answers worked out beside the program. */
    private static void farApartShares() {
        String[] walks = {"444444444422", "255555000000", "000000044444", "331122555333", "333044440000", "222333333333",
            "111331133325", "333455000222", "422233555500", "422224444444"};
        StateShares x = new StateShares(6);
        for (int thing = 0; thing < 10; thing++) {
            for (int year = 0; year < 12; year++) {
                x.mark(thing, year, 0, walks[thing].charAt(year) - '0');
            }
        }
        x.least(50);
        for (int s = 0; s < 6; s++) {
            x.start(s, 1, 6);
        }
        Check.at(x, 0, 1, 899452538261L, 5580414502740L);
        Check.at(x, 5, 1, 4859439121L, 28471502565L);
        long[] last = {326104284085528171L, 213255650000000000L, 809116014340730927L, 245146168726325267L, 470540704669421854L,
            427781554499470569L, 513884677254721760L, 182183431251343038L, 347372416372204073L, 905047637963484140L,
            381664186717595928L, 84740605163570205L, 636458106641178847L, 942988675512143573L, 2692L, 13789L, 0L, 0L};
        for (int part = 0; part < last.length; part++) {
            Check.due("at(5, 11, " + part + ")", last[part], x.at(5, 11, part));
        }
        Check.yes("sums(11)", x.sums(11));
    }
}
