/** Promises 6 (count), 7 (least), 8 (share), 15 (span) and 19 (joined). */
public final class PromiseMovesTest {
    public static void main(String[] args) {
        count();
        least();
        groupsAtTheEnd();
        share();
        span();
        wrongStates();
        Check.finish();
    }

    private static void count() {
        StateShares x = new StateShares(3);
        Check.due("count of nothing", 0, x.count(0, 0));
        Check.walk(x, 0, 0, 0, 0, 1, 1, 2);
        Check.walk(x, 1, 0, 0, -1, 1, 2, 2, 0);
        Check.due("count(0, 0)", 1, x.count(0, 0));
        Check.due("count(0, 1), not over a gap", 1, x.count(0, 1));
        Check.due("count(1, 1)", 1, x.count(1, 1));
        Check.due("count(1, 2)", 2, x.count(1, 2));
        Check.due("count(2, 2)", 1, x.count(2, 2));
        Check.due("count(2, 0)", 1, x.count(2, 0));
        x.mark(1, 1, 3, 0);
        Check.due("the gap is filled", 2, x.count(0, 0));
        Check.due("the gap is filled", 2, x.count(0, 1));
        x.mark(1, 10, 0, 2);
        x.mark(1, 11, 0, 1);
        Check.due("the last two years", 1, x.count(2, 1));
        Check.grade(x, "1", 1);
        Check.due("by other rules", 10, x.count(1, 1));
        Check.due("by other rules", 0, x.count(0, 0));
    }

    private static void least() {
        StateShares x = new StateShares(4);
        Check.no("least(-1)", x.least(-1));
        Check.no("least(51)", x.least(51));
        Check.yes("least(0)", x.least(0));
        Check.yes("least(50)", x.least(50));
        Check.due("one group, if none has enough", 1, x.joined(0, 3));
        Check.yes("least(0)", x.least(0));
        Check.due("LEAST 0: each state by itself", 0, x.joined(2, 3));
        Check.yes("least(1)", x.least(1));
        // Moves from 0: 1, from 1: 2, from 2: 0, from 3: 1.
        Check.walk(x, 0, 0, 0, 1, 1, 3, 3);
        Check.due("joined(0, 1)", 0, x.joined(0, 1));
        Check.due("joined(1, 2)", 0, x.joined(1, 2));
        Check.due("2 has none and goes with 3", 1, x.joined(2, 3));
        Check.due("joined(3, 2)", 1, x.joined(3, 2));
        Check.no("least(51)", x.least(51));
        Check.due("it stays", 0, x.joined(0, 1));
        Check.yes("least(2)", x.least(2));
        Check.due("0 has too little and goes with 1", 1, x.joined(0, 1));
        Check.due("the last ones have too little and go with those before", 1, x.joined(0, 3));
        Check.yes("least(3)", x.least(3));
        Check.due("joined(1, 3)", 1, x.joined(1, 3));
        Check.due("joined(-1, 0)", -1, x.joined(-1, 0));
        Check.due("joined(0, 4)", -1, x.joined(0, 4));
        Check.due("joined(4, 0)", -1, x.joined(4, 0));
    }

    private static void groupsAtTheEnd() {
        StateShares x = new StateShares(6);
        // Moves from 0: 3, from 1: 1, from 2: 1, from 3: 0, from 4: 2, from 5: 1.
        Check.walk(x, 0, 0, 0, 0, 0, 1, 2, 4, 4, 5, 5);
        x.least(2);
        int[] groups = {0, 1, 1, 2, 2, 2};
        for (int a = 0; a < 6; a++) {
            for (int b = 0; b < 6; b++) {
                Check.due("LEAST 2: joined(" + a + ", " + b + ")", groups[a] == groups[b] ? 1 : 0, x.joined(a, b));
            }
        }
        x.least(1);
        int[] others = {0, 1, 2, 3, 3, 4};
        for (int a = 0; a < 6; a++) {
            for (int b = 0; b < 6; b++) {
                Check.due("LEAST 1: joined(" + a + ", " + b + ")", others[a] == others[b] ? 1 : 0, x.joined(a, b));
            }
        }
    }

    private static void share() {
        StateShares x = new StateShares(3);
        Check.share(x, 0, 0, 1, 1);
        Check.share(x, 0, 1, 0, 1);
        Check.share(x, 2, 2, 1, 1);
        Check.walk(x, 0, 0, 0, 0, 0, 1, 2, 1);
        Check.walk(x, 1, 0, 0, 2, 2);
        // From 0: 2 to 0, 1 to 1, 1 to 2; from 1: 1 to 2; from 2: 1 to 1, 1 to 2.
        Check.share(x, 0, 0, 1, 2);
        Check.share(x, 0, 1, 1, 4);
        Check.share(x, 0, 2, 1, 4);
        Check.share(x, 1, 0, 0, 1);
        Check.share(x, 1, 2, 1, 1);
        Check.share(x, 2, 1, 1, 2);
        int[] parts = {2, 3, -1, -2, 1000, Integer.MAX_VALUE, Integer.MIN_VALUE};
        for (int part : parts) {
            Check.due("share(0, 0, " + part + ")", 0, x.share(0, 0, part));
        }
        x.least(3);
        // Groups 0, and 1 with 2: steps -1: 1, 0: 1, 1: 1.
        Check.share(x, 0, 0, 1, 2);
        Check.share(x, 1, 0, 1, 3);
        Check.share(x, 1, 1, 1, 3);
        Check.share(x, 1, 2, 1, 3);
        Check.share(x, 2, 0, 0, 1);
        Check.share(x, 2, 1, 1, 2);
        Check.share(x, 2, 2, 1, 2);
        x.least(50);
        // One group, steps -1: 1, 0: 3, 1: 2, 2: 1; what would leave the states does not count.
        Check.share(x, 0, 0, 1, 2);
        Check.share(x, 0, 1, 1, 3);
        Check.share(x, 0, 2, 1, 6);
        Check.share(x, 1, 0, 1, 6);
        Check.share(x, 1, 1, 1, 2);
        Check.share(x, 1, 2, 1, 3);
        Check.share(x, 2, 0, 0, 1);
        Check.share(x, 2, 1, 1, 4);
        Check.share(x, 2, 2, 3, 4);
    }

    private static void span() {
        StateShares x = new StateShares(3);
        Check.due("span of nothing, end 0", 0, x.span(0, 0, 0, 0));
        Check.due("span of nothing, end 0", 1, x.span(0, 0, 0, 1));
        Check.due("span of nothing, end 1", 1, x.span(0, 0, 1, 0));
        Check.due("span of nothing, end 1", 1, x.span(0, 0, 1, 1));
        Check.walk(x, 0, 0, 0, 0, 0, 1);
        Check.walk(x, 1, 0, 0, 1, 1);
        // From 0: 2 to 0 and 2 to 1.
        Check.due("2 by 6", 1, x.span(0, 0, 0, 0));
        Check.due("2 by 6", 3, x.span(0, 0, 0, 1));
        Check.due("4 by 6", 2, x.span(0, 1, 1, 0));
        Check.due("4 by 6", 3, x.span(0, 1, 1, 1));
        Check.due("2 by 6", 1, x.span(0, 2, 1, 0));
        Check.due("0 by 6", 1, x.span(0, 2, 0, 1));
        x.least(50);
        Check.due("of the state itself, not of its group", 3, x.span(1, 1, 0, 1));
        Check.due("of the state itself, not of its group", 1, x.span(1, 1, 0, 0));
        int[][] none = {{-1, 0, 0, 0}, {3, 0, 0, 0}, {0, -1, 0, 0}, {0, 3, 0, 0}, {0, 0, -1, 0}, {0, 0, 2, 0}, {0, 0, 0, -1}, {0, 0, 0, 2}};
        for (int[] a : none) {
            Check.due("span of none such", -1, x.span(a[0], a[1], a[2], a[3]));
        }
    }

    private static void wrongStates() {
        StateShares x = new StateShares(3);
        int[] wrong = {-1, 3, Integer.MIN_VALUE, Integer.MAX_VALUE};
        for (int s : wrong) {
            Check.throwsIndex("count(" + s + ", 0)", () -> x.count(s, 0));
            Check.throwsIndex("count(0, " + s + ")", () -> x.count(0, s));
            Check.throwsIndex("share(" + s + ", 0, -5)", () -> x.share(s, 0, -5));
            Check.throwsIndex("share(0, " + s + ", 99)", () -> x.share(0, s, 99));
            Check.throwsIndex("at(" + s + ", 99, -5)", () -> x.at(s, 99, -5));
        }
    }
}
