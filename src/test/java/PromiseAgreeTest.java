/** Promise 18 (agree). */
public final class PromiseAgreeTest {
    public static void main(String[] args) {
        StateShares x = new StateShares(4);
        none(x);
        alike(x);
        StateShares y = new StateShares(3);
        apart(y);
        Check.finish();
    }

    private static void due(StateShares x, int a, int b, long above, long below) {
        Check.due("agree(" + a + ", " + b + ", 0)", above, x.agree(a, b, 0));
        Check.due("agree(" + a + ", " + b + ", 1)", below, x.agree(a, b, 1));
        Check.due("agree(" + b + ", " + a + ", 0)", above, x.agree(b, a, 0));
        Check.due("agree(" + b + ", " + a + ", 1)", below, x.agree(b, a, 1));
    }

    private static void none(StateShares x) {
        due(x, 0, 1, 0, 0);
        int[][] wrong = {{-1, 0, 0}, {4, 0, 0}, {0, -1, 0}, {0, 4, 0}, {0, 0, 0}, {3, 3, 1}, {0, 1, -1}, {0, 1, 2},
            {Integer.MIN_VALUE, 1, 0}, {0, 1, Integer.MAX_VALUE}};
        for (int[] a : wrong) {
            Check.due("agree(" + a[0] + ", " + a[1] + ", " + a[2] + ")", -1, x.agree(a[0], a[1], a[2]));
        }
    }

    private static void alike(StateShares x) {
        x.mark(0, 0, 0, 2);
        due(x, 0, 1, 0, 0);
        x.mark(0, 0, 1, 2);
        // One place, the same: 1 - 1 by 1 - 1.
        due(x, 0, 1, 0, 0);
        x.mark(9, 11, 0, 3);
        x.mark(9, 11, 1, 3);
        // m 2, a 2, e 2: 2 by 2.
        due(x, 0, 1, 1, 1);
        x.mark(5, 5, 1, 1);
        x.mark(5, 6, 0, 1);
        due(x, 0, 1, 1, 1);
        x.mark(5, 5, 0, 2);
        // m 3, a 2, e 2 x 1 (state 2) + 1 (state 3): 3 by 6.
        due(x, 0, 1, 1, 2);
        due(x, 0, 3, 0, 0);
        Check.grade(x, "0", 1);
        due(x, 0, 1, 1, 2);
    }

    private static void apart(StateShares x) {
        x.mark(0, 0, 2, 0);
        x.mark(0, 0, 3, 1);
        // m 1, a 0, e 0: 0 by 1.
        due(x, 2, 3, 0, 1);
        x.mark(0, 1, 2, 1);
        x.mark(0, 1, 3, 0);
        // m 2, a 0, e 1 + 1: - 2 by 2.
        due(x, 2, 3, -1, 1);
        x.mark(1, 1, 2, 2);
        x.mark(1, 1, 3, 2);
        // m 3, a 1, e 3: 0 by 6.
        due(x, 2, 3, 0, 1);
        x.mark(1, 2, 2, 2);
        x.mark(1, 2, 3, 0);
        // m 4, a 1, e 1 x 2 + 1 x 1 + 2 x 1 = 5: - 1 by 11.
        due(x, 2, 3, -1, 11);
        x.mark(1, 2, 3, 2);
        // m 4, a 2, e 1 + 1 + 4 = 6: 2 by 10.
        due(x, 2, 3, 1, 5);
    }
}
