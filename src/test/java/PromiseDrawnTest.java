/** Promise 14 (drawn). */
public final class PromiseDrawnTest {
    public static void main(String[] args) {
        wrong();
        yearNought();
        manySeeds();
        exactlyAtTheDraw();
        notByWorks();
        Check.finish();
    }

    private static void wrong() {
        StateShares x = new StateShares(3);
        int[][] none = {{-1, 0}, {10, 0}, {0, -1}, {0, 12}, {Integer.MIN_VALUE, 3}, {3, Integer.MAX_VALUE}};
        for (int[] a : none) {
            Check.due("drawn(5, " + a[0] + ", " + a[1] + ")", -1, x.drawn(5, a[0], a[1]));
        }
        for (int year = 0; year < 12; year++) {
            Check.due("without moves all stays", 0, x.drawn(year * 77L, 9, year));
        }
    }

    private static void yearNought() {
        StateShares x = new StateShares(4);
        Check.due("none is graded", 0, x.drawn(1, 5, 0));
        x.mark(8, 0, 2, 3);
        x.mark(2, 1, 2, 1);
        Check.due("as the thing of its kind that is graded at year 0", 3, x.drawn(1, 5, 0));
        x.mark(5, 0, 0, 1);
        Check.due("as it is graded itself", 1, x.drawn(1, 5, 0));
        x.mark(9, 0, 0, 2);
        Check.due("as the least thing", 1, x.drawn(1, 0, 0));
        x.kind(5, 2);
        Check.due("as the least thing of its kind", 3, x.drawn(1, 0, 0));
        x.kind(0, 2);
        Check.due("as the least thing of its kind", 1, x.drawn(1, 0, 0));
        x.kind(0, 1);
        Check.due("none of its kind", 0, x.drawn(1, 0, 0));
        Check.due("it stays where there are no moves", 3, x.drawn(1, 8, 11));
        Check.grade(x, "min; 2", 2);
        Check.grade(x, "2", 1);
        Check.due("by other rules", 2, x.drawn(1, 8, 11));
    }

    private static void manySeeds() {
        StateShares x = new StateShares(3);
        // From 0 one to each state; from 1 one to 0 and one to 2; from 2 two to 0 and one to 2.
        Check.walk(x, 1, 1, 0, 0, 1, 0, 2, 2, 0);
        Check.walk(x, 2, 4, 1, 2, 0);
        long[] seeds = {0, 1, -1, 123456789, Long.MIN_VALUE, Long.MAX_VALUE};
        int[] things = {0, 4, 9};
        // Worked out beside the program.
        String[] ways = {
            "002002020020", "020010200200", "002002002002",
            "010200200202", "002002001020", "010200200200",
            "020200200200", "002002002002", "020020020010",
            "020020020020", "010200200202", "002020020020",
            "010200200200", "002002002002", "020020200200",
            "002002002020", "020020020200", "012002002002",
        };
        for (int i = 0; i < ways.length; i++) {
            for (int year = 0; year < 12; year += 1 + i % 2) {
                int want = ways[i].charAt(year) - '0';
                long seed = seeds[i / 3];
                int thing = things[i % 3];
                Check.due("drawn(" + seed + ", " + thing + ", " + year + ")", want, x.drawn(seed, thing, year));
            }
        }
    }

    private static void exactlyAtTheDraw() {
        StateShares x = new StateShares(3);
        // Half of 0 goes to 1, half to 2.
        Check.walk(x, 0, 1, 0, 1);
        Check.walk(x, 1, 1, 0, 2);
        Check.due("a draw of 2^30 - 1", 1, x.drawn(6637699833026147452L, 3, 1));
        Check.due("a draw of 2^30: the half is not above it", 2, x.drawn(-8396690539380904235L, 3, 1));
        Check.due("a draw of 0 passes over shares of 0", 1, x.drawn(-558294069723180398L, 3, 1));
        Check.due("the greatest draw", 2, x.drawn(-2585672203828628356L, 3, 1));
    }

    private static void notByWorks() {
        StateShares x = new StateShares(2);
        Check.walk(x, 0, 0, 0, 0);
        x.works(0, 0, 1, 1, 1);
        x.event(1, 0, 1, 1, 1);
        x.start(1, 1, 1);
        Check.due("works, events and start do not matter", 0, x.drawn(9, 0, 11));
        Check.walk(x, 1, 0, 0, 1);
        Check.due("the greatest draw goes to the last state that has a share", 1, x.drawn(-2585672203825628347L, 0, 1));
        x.mark(1, 1, 0, 0);
        Check.due("the same draw, once none moves", 0, x.drawn(-2585672203825628347L, 0, 1));
    }
}
