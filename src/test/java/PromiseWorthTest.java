/** Promises 16 (part2), 17 (worth) and 20 (target). */
public final class PromiseWorthTest {
    public static void main(String[] args) {
        part2();
        worth();
        longWorth();
        target();
        Check.finish();
    }

    private static void part2() {
        StateShares x = new StateShares(3);
        Check.worth(x, 0, 0, 0, 1);
        Check.no("part2(-1, 0)", x.part2(-1, 0));
        Check.no("part2(3, 0)", x.part2(3, 0));
        Check.no("part2(0, 1000001)", x.part2(0, 1000001));
        Check.no("part2(0, -1000001)", x.part2(0, -1000001));
        Check.no("part2(0, 2^32)", x.part2(0, 1L << 32));
        Check.worth(x, 0, 0, 0, 1);
        Check.yes("part2(0, 1000000)", x.part2(0, 1000000));
        Check.worth(x, 0, 1, 1000000, 1);
        Check.yes("part2(0, -1000000)", x.part2(0, -1000000));
        Check.worth(x, 0, -1, 1000000, 1);
        Check.yes("part2(0, 0)", x.part2(0, 0));
        Check.worth(x, 11, 0, 0, 1);
    }

    private static void worth() {
        StateShares x = new StateShares(3);
        x.works(2, 0, 1, 1, 6);
        x.works(2, 0, 2, 3, 5);
        // Behind year 2: 1/3, 1/6, 1/2.
        x.part2(0, 9);
        Check.worth(x, 2, 1, 9, 1);
        Check.worth(x, 3, 1, 3, 1);
        int[] below = {-2, -3, Integer.MIN_VALUE};
        for (int part : below) {
            Check.due("worth(3, " + part + ")", 0, x.worth(3, part));
        }
        x.part2(1, 5);
        Check.worth(x, 3, 1, 23, 6);
        x.part2(2, -20);
        Check.worth(x, 3, -1, 37, 6);
        Check.worth(x, 2, 1, 9, 1);
        x.part2(1, 42);
        Check.worth(x, 3, 0, 0, 1);
        int[] none = {-2, -3, Integer.MIN_VALUE, 2, 3, 4000, Integer.MAX_VALUE};
        for (int part : none) {
            Check.due("worth(11, " + part + ")", 0, x.worth(11, part));
        }
        Check.due("worth(-1, 0)", -1, x.worth(-1, 0));
        Check.due("worth(12, 0)", -1, x.worth(12, 0));
        Check.due("worth(12, -1)", -1, x.worth(12, -1));
        Check.due("worth(12, -2)", -1, x.worth(12, -2));
        x.start(1, 1, 7);
        Check.worth(x, 0, 1, 6, 1);
        x.mark(0, 0, 0, 1);
        x.mark(0, 1, 0, 2);
        Check.worth(x, 0, 1, 6, 1);
        Check.worth(x, 1, -1, 20, 7);
        x.event(0, 2, 1, 1, 2);
        Check.worth(x, 1, 1, 11, 7);
    }

    private static void longWorth() {
        StateShares x = new StateShares(2);
        for (int i = 0; i < 12; i++) {
            x.works(0, 0, 1, 999, 1000);
        }
        x.part2(0, 1);
        x.part2(1, -7);
        // 10^-36 - 7 (1 - 10^-36), which is - (7 10^36 - 8) by 10^36, shortened by 8.
        long[] upper = {999999999999999999L, 874999999999999999L, 0};
        long[] lower = {0, 125000000000000000L, 0};
        for (int k = 0; k < 3; k++) {
            Check.due("upper, part " + 2 * k, upper[k], x.worth(1, 2 * k));
            Check.due("lower, part " + (2 * k + 1), lower[k], x.worth(1, 2 * k + 1));
        }
        Check.due("its sign", -1, x.worth(1, -1));
    }

    private static void target() {
        StateShares x = new StateShares(3);
        // A half of 0 goes to 1 each year, a half of 1 to 2.
        x.mark(0, 0, 0, 0);
        x.mark(0, 1, 0, 0);
        x.mark(0, 2, 0, 1);
        x.mark(0, 3, 0, 1);
        x.mark(0, 4, 0, 2);
        // Behind 2 years: 1/4, 1/2, 1/4; behind 3: 1/8, 3/8, 1/2.
        Check.due("all states have 1 at year 0", 0, x.target(0, 1, 1));
        Check.due("0 is reached at once", 0, x.target(2, 0, 1));
        Check.due("half behind 0", 1, x.target(1, 1, 2));
        Check.due("just above a half", 2, x.target(1, 501, 1000));
        Check.due("three quarters behind 0", 2, x.target(1, 3, 4));
        Check.due("a quarter in 2", 2, x.target(2, 1, 4));
        Check.due("a half in 2", 3, x.target(2, 500, 1000));
        Check.due("more than a half in 2", 4, x.target(2, 501, 1000));
        Check.due("all in 2", -1, x.target(2, 1, 1));
        x.event(10, 0, 2, 1, 1);
        x.event(10, 1, 2, 1, 1);
        Check.due("all in 2, in the last year", 11, x.target(2, 1, 1));
        long[][] wrong = {{-1, 0, 1}, {3, 0, 1}, {0, -1, 1}, {0, 2, 1}, {0, 0, 0}, {0, 0, 1001}};
        for (long[] a : wrong) {
            Check.due("target of none such", -1, x.target((int) a[0], a[1], a[2]));
        }
        x.start(2, 1, 10);
        Check.due("all states have less than 1", -1, x.target(0, 1, 1));
        Check.due("a tenth", 0, x.target(1, 1, 10));
    }
}
