/** Promises 1 (a new object), 2 (mark), 5 (graded), 21 (missing) and 22 (kind). */
public final class PromiseMarksTest {
    public static void main(String[] args) {
        newObject();
        mark();
        graded();
        missing();
        kind();
        Check.finish();
    }

    private static void newObject() {
        int[][] askedAndMade = {{2, 2}, {3, 3}, {4, 4}, {5, 5}, {6, 6}, {1, 2}, {0, 2}, {-1, 2}, {7, 6},
            {Integer.MIN_VALUE, 2}, {Integer.MAX_VALUE, 6}};
        for (int[] pair : askedAndMade) {
            StateShares x = new StateShares(pair[0]);
            int n = pair[1];
            String name = "of " + pair[0] + " states: ";
            Check.yes(name + "mark with the last state", x.mark(0, 0, 0, n - 1));
            Check.throwsIndex(name + "mark with one more", () -> x.mark(0, 0, 0, n));
            Check.due(name + "joined(n - 1, n - 1)", 1, x.joined(n - 1, n - 1));
            Check.due(name + "joined(n, n)", -1, x.joined(n, n));
            Check.due(name + "at(0, 0, 0)", 1, x.at(0, 0, 0));
            Check.due(name + "missing(0)", -1, x.missing(0));
        }
    }

    private static void mark() {
        StateShares x = new StateShares(4);
        Check.no("mark, thing -1", x.mark(-1, 0, 0, 0));
        Check.no("mark, thing 10", x.mark(10, 0, 0, 0));
        Check.no("mark, year -1", x.mark(0, -1, 0, 0));
        Check.no("mark, year 12", x.mark(0, 12, 0, 0));
        Check.no("mark, person -1", x.mark(0, 0, -1, 0));
        Check.no("mark, person 4", x.mark(0, 0, 4, 0));
        Check.no("mark, far off", x.mark(Integer.MAX_VALUE, Integer.MIN_VALUE, Integer.MAX_VALUE, 0));
        // What makes it false comes before what throws.
        Check.no("mark, no thing and no state", x.mark(10, 0, 0, 4));
        Check.no("mark, no year and no state", x.mark(0, 12, 0, -1));
        Check.no("mark, no person and no state", x.mark(0, 0, 4, 99));
        Check.throwsIndex("mark, state 4", () -> x.mark(0, 0, 0, 4));
        Check.throwsIndex("mark, state -1", () -> x.mark(9, 11, 3, -1));
        Check.throwsIndex("mark, state far off", () -> x.mark(9, 11, 3, Integer.MIN_VALUE));
        Check.due("a mark that throws is none", -1, x.graded(0, 0));
        Check.yes("mark(9, 11, 3, 3)", x.mark(9, 11, 3, 3));
        Check.due("graded(9, 11)", 3, x.graded(9, 11));
        Check.yes("mark(9, 11, 3, 1)", x.mark(9, 11, 3, 1));
        Check.due("the new mark takes the old one's place", 1, x.graded(9, 11));
        Check.throwsIndex("mark(9, 11, 3, 4)", () -> x.mark(9, 11, 3, 4));
        Check.due("the old one stays where it throws", 1, x.graded(9, 11));
    }

    private static void graded() {
        StateShares x = new StateShares(6);
        Check.due("graded without marks", -1, x.graded(0, 0));
        int[] seen = {4, 0, 5, 2};
        int[] max = {4, 4, 5, 5};
        for (int person = 0; person < 4; person++) {
            x.mark(3, 7, person, seen[person]);
            Check.due("at first the rule is max", max[person], x.graded(3, 7));
        }
        Check.due("graded(-1, 0)", -1, x.graded(-1, 0));
        Check.due("graded(10, 0)", -1, x.graded(10, 0));
        Check.due("graded(0, -1)", -1, x.graded(0, -1));
        Check.due("graded(3, 12)", -1, x.graded(3, 12));
        Check.due("graded(3, 6)", -1, x.graded(3, 6));
        Check.due("graded(4, 7)", -1, x.graded(4, 7));
        Check.grade(x, "min", 1);
        Check.due("min of 4 0 5 2", 0, x.graded(3, 7));
        Check.grade(x, "mid", 1);
        Check.due("mid of 4 0 5 2: the greater one", 4, x.graded(3, 7));
        Check.grade(x, "3", 1);
        Check.due("3", 3, x.graded(3, 7));
        x.mark(5, 5, 2, 1);
        Check.due("marks after grade() are graded by the same rules", 3, x.graded(5, 5));
    }

    private static void missing() {
        StateShares x = new StateShares(3);
        x.mark(2, 3, 0, 0);
        Check.due("one year alone", -1, x.missing(0));
        x.mark(2, 6, 1, 2);
        Check.due("missing(0)", 36, x.missing(0));
        Check.due("missing(1)", 37, x.missing(1));
        Check.due("missing(2)", -1, x.missing(2));
        Check.due("missing(-1)", -1, x.missing(-1));
        Check.due("missing(least int)", -1, x.missing(Integer.MIN_VALUE));
        Check.due("missing(greatest int)", -1, x.missing(Integer.MAX_VALUE));
        x.mark(1, 11, 0, 0);
        x.mark(1, 9, 0, 0);
        x.mark(9, 0, 0, 0);
        x.mark(9, 2, 0, 0);
        Check.due("things first", 26, x.missing(0));
        Check.due("then years", 36, x.missing(1));
        Check.due("then years", 37, x.missing(2));
        Check.due("the last thing", 145, x.missing(3));
        Check.due("no more", -1, x.missing(4));
        x.mark(2, 4, 3, 0);
        Check.due("a place that is graded now", 37, x.missing(1));
        x.mark(9, 4, 3, 0);
        Check.due("a second gap of one thing", 147, x.missing(3));
    }

    private static void kind() {
        StateShares x = new StateShares(5);
        Check.no("kind(-1, 0)", x.kind(-1, 0));
        Check.no("kind(10, 0)", x.kind(10, 0));
        Check.no("kind(0, -1)", x.kind(0, -1));
        Check.no("kind(0, 4)", x.kind(0, 4));
        x.mark(3, 0, 0, 2);
        x.mark(5, 0, 0, 4);
        Check.due("all of kind 0: as the least thing that is graded", 2, x.drawn(1, 7, 0));
        Check.yes("kind(3, 3)", x.kind(3, 3));
        Check.due("thing 3 is of another kind now", 4, x.drawn(1, 7, 0));
        Check.yes("kind(7, 3)", x.kind(7, 3));
        Check.due("thing 7 went over as well", 2, x.drawn(1, 7, 0));
        Check.yes("kind(7, 1)", x.kind(7, 1));
        Check.due("alone in its kind", 0, x.drawn(1, 7, 0));
        Check.due("a thing that is graded itself", 4, x.drawn(1, 5, 0));
        Check.yes("kind(7, 0)", x.kind(7, 0));
        Check.due("and back", 4, x.drawn(1, 7, 0));
    }
}
