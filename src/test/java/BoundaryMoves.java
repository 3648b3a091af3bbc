/** A test for each sentence of promises 6, 7, 8, 14, 15 and 19 that names a boundary. */
final class BoundaryMoves {
    private static final long FACTOR = 6364136223846793005L;
    private static final long MORE = 1442695040888963407L;

    static final Check.Call[] TESTS = {
        BoundaryMoves::count,
        BoundaryMoves::least,
        BoundaryMoves::leastOfNone,
        BoundaryMoves::share,
        BoundaryMoves::drawnStays,
        BoundaryMoves::drawnAsGraded,
        BoundaryMoves::drawnAsTheLeastThing,
        BoundaryMoves::drawnFromNought,
        BoundaryMoves::drawnAboveTheDraw,
        BoundaryMoves::drawnBySeed,
        BoundaryMoves::drawnWithoutWorks,
        BoundaryMoves::drawnOfNone,
        BoundaryMoves::spanOfTheState,
        BoundaryMoves::spanEnds,
        BoundaryMoves::spanParts,
        BoundaryMoves::spanOfNone,
        BoundaryMoves::joined,
        BoundaryMoves::joinedOfNone,
    };

    private BoundaryMoves() {
    }

    private static void count() {
        Check.sentence("Promise 6", "How many moves there are from a state to another one.");
        StateShares x = new StateShares(2);
        Check.due("none at first", 0, x.count(0, 1));
        Check.due("none at first", 0, x.count(1, 1));
        for (int thing = 0; thing < 10; thing++) {
            Check.walk(x, thing, 0, 1, 1, 1, 1, 1, 1, 1, 1, 1, 1, 1, 1);
        }
        Check.due("as many as can be", 110, x.count(1, 1));
        Check.due("to another one none", 0, x.count(1, 0));
        x.mark(9, 11, 0, 0);
        Check.due("one less", 109, x.count(1, 1));
        Check.due("one to 0", 1, x.count(1, 0));
        Check.due("none from 0", 0, x.count(0, 1));
        Check.grade(x, "0", 1);
        Check.due("by other rules", 110, x.count(0, 0));
        Check.throwsIndex("count(2, 0)", () -> x.count(2, 0));
        Check.throwsIndex("count(0, 2)", () -> x.count(0, 2));
        Check.throwsIndex("count(-1, 2)", () -> x.count(-1, 2));
    }

    private static void least() {
        Check.sentence("Promise 7", "Another LEAST, 0 .. 50.");
        StateShares x = new StateShares(2);
        for (int thing = 0; thing < 4; thing++) {
            Check.walk(x, thing, 0, 0, 0, 0, 0, 0, 0, 0, 0, 0, 0, 0, 0);
            Check.walk(x, thing + 4, 0, 1, 1, 1, 1, 1, 1, 1, 1, 1, 1, 1, 1);
        }
        Check.walk(x, 8, 0, 0, 0, 0, 0, 0, 0, 0);
        Check.walk(x, 9, 0, 1, 1, 1, 1, 1, 1, 1, 1);
        // 44 and 7 moves from each of them; one less from 0.
        x.mark(8, 7, 0, 1);
        x.mark(8, 6, 0, 1);
        Check.due("from 0", 50, x.count(0, 0) + x.count(0, 1));
        for (int least = 0; least <= 50; least++) {
            Check.yes("least(" + least + ")", x.least(least));
            Check.due("50 moves are enough for " + least, 0, x.joined(0, 1));
        }
        x.mark(8, 5, 0, 1);
        Check.due("49 are not enough for 50", 1, x.joined(0, 1));
        Check.yes("least(49)", x.least(49));
        Check.due("but for 49", 0, x.joined(0, 1));
    }

    private static void leastOfNone() {
        Check.sentence("Promise 7", "False: none such.");
        int[] none = {-1, 51, 52, Integer.MIN_VALUE, Integer.MAX_VALUE, 256, 1 << 16};
        StateShares x = new StateShares(2);
        for (int least : none) {
            Check.no("least(" + least + ")", x.least(least));
            Check.due("LEAST 0 stays", 0, x.joined(0, 1));
        }
        x.least(50);
        for (int least : none) {
            Check.no("least(" + least + ")", x.least(least));
            Check.due("LEAST 50 stays", 1, x.joined(0, 1));
        }
    }

    private static void share() {
        Check.sentence("Promise 8", "The share that goes from a state to another one, by parts.");
        StateShares x = new StateShares(6);
        Check.share(x, 5, 5, 1, 1);
        Check.share(x, 5, 0, 0, 1);
        for (int thing = 0; thing < 10; thing++) {
            Check.walk(x, thing, 0, 0, 0, 0, 0, 0, 0, 0, 0, 0, 0, 0, thing == 0 ? 5 : 0);
        }
        Check.share(x, 0, 0, 109, 110);
        Check.share(x, 0, 5, 1, 110);
        Check.share(x, 0, 4, 0, 1);
        int[] parts = {2, 3, -1, -2, Integer.MIN_VALUE, Integer.MAX_VALUE, Integer.MAX_VALUE - 1, 1 << 30};
        for (int part : parts) {
            Check.due("share(0, 0, " + part + ")", 0, x.share(0, 0, part));
        }
        Check.throwsIndex("share(6, 0, 0)", () -> x.share(6, 0, 0));
        Check.throwsIndex("share(0, 6, 0)", () -> x.share(0, 6, 0));
        Check.throwsIndex("share(-1, -1, 2)", () -> x.share(-1, -1, 2));
    }

    /** From each of two states a half to each: the next state is the draw's upper bit. */
    private static StateShares halves() {
        StateShares x = new StateShares(2);
        Check.walk(x, 1, 1, 0, 0, 1, 1, 0);
        return x;
    }

    /** The seed for which a thing has a draw in a year, the bits behind it being all 0 or all 1. */
    private static long seedOf(long draw, boolean ones, int thing, int year) {
        long inverse = 1;
        for (int i = 0; i < 6; i++) {
            inverse *= 2 - FACTOR * inverse;
        }
        long v = draw << 33 | (ones ? (1L << 33) - 1 : 0);
        v = (v - MORE) * inverse;
        v = (v - MORE) * inverse;
        return v - 1000003L * thing - 7919L * year;
    }

    private static void drawnStays() {
        Check.sentence("Promise 14", "A single thing by a seed: its state in a year.");
        StateShares x = new StateShares(6);
        x.mark(9, 0, 0, 5);
        for (int year = 0; year < 12; year++) {
            Check.due("without moves all stays", 5, x.drawn(Long.MIN_VALUE + year, 9, year));
        }
        StateShares y = new StateShares(6);
        Check.walk(y, 0, 0, 0, 1, 2, 3, 4, 5, 0);
        for (int year = 0; year < 12; year++) {
            Check.due("one step a year", year % 6, y.drawn(77, 0, year));
        }
    }

    private static void drawnAsGraded() {
        Check.sentence("Promise 14", "At year 0 it is the one to which it is graded then;");
        StateShares x = new StateShares(4);
        x.mark(5, 0, 0, 3);
        x.mark(0, 0, 0, 1);
        x.mark(5, 1, 0, 2);
        Check.due("drawn(1, 5, 0)", 3, x.drawn(1, 5, 0));
        x.mark(5, 0, 0, 0);
        Check.due("0 is a state, too", 0, x.drawn(1, 5, 0));
        Check.grade(x, "2", 1);
        Check.due("by other rules", 2, x.drawn(1, 5, 0));
    }

    private static void drawnAsTheLeastThing() {
        Check.sentence("Promise 14", "if it is not, that of the least thing of its kind that is;");
        StateShares x = new StateShares(4);
        x.mark(9, 0, 0, 3);
        for (int thing = 0; thing < 10; thing++) {
            Check.due("as thing 9: " + thing, 3, x.drawn(1, thing, 0));
        }
        x.mark(4, 1, 0, 1);
        Check.due("graded, but not at year 0", 3, x.drawn(1, 4, 0));
        x.mark(6, 0, 0, 2);
        Check.due("6 is less than 9", 2, x.drawn(1, 8, 0));
        x.mark(0, 0, 0, 0);
        Check.due("0 is less than 6", 0, x.drawn(1, 8, 0));
        x.kind(8, 3);
        x.kind(9, 3);
        Check.due("9 is the only one of its kind", 3, x.drawn(1, 8, 0));
        x.kind(8, 0);
        x.kind(0, 3);
        Check.due("0 is of another kind now", 2, x.drawn(1, 8, 0));
    }

    private static void drawnFromNought() {
        Check.sentence("Promise 14", "else 0.");
        StateShares x = new StateShares(4);
        Check.due("nothing is graded", 0, x.drawn(1, 7, 0));
        x.mark(7, 1, 0, 3);
        x.mark(6, 11, 0, 3);
        Check.due("nothing is graded at year 0", 0, x.drawn(1, 7, 0));
        x.mark(6, 0, 0, 3);
        x.kind(6, 1);
        Check.due("nothing of its kind", 0, x.drawn(1, 7, 0));
    }

    private static void drawnAboveTheDraw() {
        Check.sentence("Promise 14", "From year y on it goes to the least state b for which the shares from its state to 0 .. b together, "
            + "times 2^31, are above the DRAW:");
        StateShares x = halves();
        for (int round = 0; round < 2; round++) {
            boolean ones = round == 1;
            Check.due("the least draw", 0, x.drawn(seedOf(0, ones, 9, 0), 9, 1));
            Check.due("2^30 - 1", 0, x.drawn(seedOf((1L << 30) - 1, ones, 9, 0), 9, 1));
            Check.due("2^30, and a half is just that", 1, x.drawn(seedOf(1L << 30, ones, 9, 0), 9, 1));
            Check.due("the greatest draw", 1, x.drawn(seedOf((1L << 31) - 1, ones, 9, 0), 9, 1));
        }
        StateShares y = new StateShares(6);
        // From 0 a third to each of 1, 3 and 4; 2^31 by 3 is 715,827,882 and two thirds.
        Check.walk(y, 0, 1, 0, 1);
        Check.walk(y, 1, 1, 0, 3);
        Check.walk(y, 2, 1, 0, 4);
        long[] draws = {0, 715827882L, 715827883L, 1431655765L, 1431655766L, (1L << 31) - 1};
        int[] goals = {1, 1, 3, 3, 4, 4};
        for (int i = 0; i < draws.length; i++) {
            Check.due("a draw of " + draws[i], goals[i], y.drawn(seedOf(draws[i], i % 2 == 0, 5, 0), 5, 1));
        }
    }

    private static void drawnBySeed() {
        Check.sentence("Promise 14", "of v = seed + 1,000,003 thing + 7,919 y, twice v times 6364136223846793005 and "
            + "1442695040888963407 more (64 bits), the upper 31 bits.");
        StateShares x = halves();
        // Worked out beside the program; the sum wraps around for the greatest seeds.
        long[] seeds = {0, 0, 0, 1, -1, -1, Long.MAX_VALUE, Long.MAX_VALUE, Long.MIN_VALUE, Long.MIN_VALUE, Long.MAX_VALUE - 39595, 1234567890123456789L};
        int[] things = {0, 1, 9, 0, 0, 5, 0, 9, 0, 9, 0, 3};
        String[] ways = {
            "001001011011", "001011011010", "001101001001", "010100100101", "010110110100", "001101001001",
            "001001001011", "001101101101", "010110100100", "010010110110", "011011010010", "010110100100",
        };
        for (int i = 0; i < ways.length; i++) {
            for (int year = 0; year < 12; year++) {
                Check.due("drawn(" + seeds[i] + ", " + things[i] + ", " + year + ")", ways[i].charAt(year) - '0',
                    x.drawn(seeds[i], things[i], year));
            }
        }
        for (int thing = 0; thing < 10; thing += 9) {
            for (int year = 0; year < 11; year++) {
                Check.due("a draw just below the half in year " + year, 0,
                    x.drawn(seedOf((1L << 30) - 1, true, thing, year), thing, year + 1));
                Check.due("a draw of a half in year " + year, 1,
                    x.drawn(seedOf(1L << 30, false, thing, year), thing, year + 1));
            }
        }
    }

    private static void drawnWithoutWorks() {
        Check.sentence("Promise 14", "Works and events do not matter.");
        StateShares x = new StateShares(2);
        Check.walk(x, 0, 0, 0, 0);
        for (int year = 0; year < 11; year++) {
            x.works(year, 0, 1, 1, 1);
            x.event(year, 0, 1, 1, 1);
        }
        x.start(1, 1, 1);
        for (int year = 0; year < 12; year++) {
            Check.due("year " + year, 0, x.drawn(3, 0, year));
        }
        StateShares y = new StateShares(3);
        // A half of 2 goes to 0; 0 and 1 stay.
        Check.walk(y, 4, 0, 2, 2, 0);
        Check.halve(y, 620);
        Check.due("all years from 3 on are too long", -1, y.at(0, 3, 0));
        Check.due("which does not matter, too", 2, y.drawn(seedOf(1L << 30, false, 4, 0), 4, 1));
        Check.due("which does not matter, too", 0, y.drawn(seedOf((1L << 30) - 1, true, 4, 0), 4, 11));
    }

    private static void drawnOfNone() {
        Check.sentence("Promise 14", "BAD: no such thing or year.");
        StateShares x = halves();
        int[] noThings = {-1, 10, Integer.MIN_VALUE, Integer.MAX_VALUE};
        int[] noYears = {-1, 12, Integer.MIN_VALUE, Integer.MAX_VALUE};
        for (int thing : noThings) {
            Check.due("thing " + thing, -1, x.drawn(0, thing, 0));
            Check.due("thing " + thing, -1, x.drawn(Long.MIN_VALUE, thing, 11));
        }
        for (int year : noYears) {
            Check.due("year " + year, -1, x.drawn(0, 0, year));
            Check.due("year " + year, -1, x.drawn(Long.MAX_VALUE, 9, year));
        }
        Check.yes("those that are", x.drawn(Long.MAX_VALUE, 9, 11) >= 0 && x.drawn(Long.MIN_VALUE, 0, 0) == 0);
    }

    private static void dueSpan(StateShares x, int from, int to, long... ends) {
        for (int i = 0; i < 4; i++) {
            Check.due("span(" + from + ", " + to + ", " + i / 2 + ", " + i % 2 + ")", ends[i], x.span(from, to, i / 2, i % 2));
        }
    }

    private static void spanOfTheState() {
        Check.sentence("Promise 15", "Of the share from a state to another one the ends: with c moves to it of t from that state (itself, not its group):");
        StateShares x = new StateShares(3);
        Check.walk(x, 0, 0, 0, 0, 0, 0, 1, 1, 2);
        x.least(50);
        Check.due("one group", 1, x.joined(0, 2));
        dueSpan(x, 0, 0, 1, 2, 5, 6);
        dueSpan(x, 0, 1, 1, 6, 1, 2);
        dueSpan(x, 1, 1, 1, 4, 3, 4);
        dueSpan(x, 2, 2, 0, 1, 1, 1);
    }

    private static void spanEnds() {
        Check.sentence("Promise 15", "c by t + 2 (end 0), c + 2 by t + 2 (end 1);");
        StateShares x = new StateShares(2);
        // Without moves: 0 by 2 and 2 by 2.
        dueSpan(x, 0, 1, 0, 1, 1, 1);
        Check.walk(x, 0, 0, 0, 0);
        dueSpan(x, 0, 0, 1, 3, 1, 1);
        dueSpan(x, 0, 1, 0, 1, 2, 3);
        StateShares y = new StateShares(2);
        for (int thing = 0; thing < 10; thing++) {
            Check.walk(y, thing, 0, 1, 1, 1, 1, 1, 1, 1, 1, 1, 1, 1, 1);
        }
        // As many moves as can be: 110 by 112.
        dueSpan(y, 1, 1, 55, 56, 1, 1);
        dueSpan(y, 1, 0, 0, 1, 1, 56);
    }

    private static void spanParts() {
        Check.sentence("Promise 15", "part 0 upper, 1 lower, in least terms.");
        StateShares x = new StateShares(2);
        Check.walk(x, 0, 0, 0, 0, 0, 1);
        Check.walk(x, 1, 0, 0, 1);
        // 2 by 6 and 4 by 6, for both.
        dueSpan(x, 0, 0, 1, 3, 2, 3);
        dueSpan(x, 0, 1, 1, 3, 2, 3);
        dueSpan(x, 1, 0, 0, 1, 1, 1);
    }

    private static void spanOfNone() {
        Check.sentence("Promise 15", "BAD: none such.");
        StateShares x = new StateShares(3);
        int[] noStates = {-1, 3, Integer.MIN_VALUE, Integer.MAX_VALUE};
        int[] noEnds = {-1, 2, Integer.MIN_VALUE, Integer.MAX_VALUE};
        for (int i = 0; i < 4; i++) {
            Check.due("from " + noStates[i], -1, x.span(noStates[i], 0, 0, 0));
            Check.due("to " + noStates[i], -1, x.span(0, noStates[i], 1, 1));
            Check.due("end " + noEnds[i], -1, x.span(0, 2, noEnds[i], 0));
            Check.due("end " + noEnds[i], -1, x.span(0, 2, noEnds[i], 1));
            Check.due("part " + noEnds[i], -1, x.span(2, 0, 0, noEnds[i]));
        }
        Check.due("those that are", 1, x.span(2, 2, 1, 1));
    }

    private static void joined() {
        Check.sentence("Promise 19", "Whether two states are in one group (1 or 0).");
        StateShares x = new StateShares(4);
        // Moves from 0: 1, from 1: 1, from 2: 2, from 3: 0.
        Check.walk(x, 0, 0, 0, 1, 2, 2, 3);
        x.least(2);
        int[] groups = {0, 0, 1, 1};
        for (int a = 0; a < 4; a++) {
            for (int b = 0; b < 4; b++) {
                Check.due("joined(" + a + ", " + b + ")", groups[a] == groups[b] ? 1 : 0, x.joined(a, b));
            }
        }
        x.mark(1, 0, 0, 0);
        x.mark(1, 1, 0, 0);
        Check.due("0 has enough by itself now", 0, x.joined(0, 1));
        Check.due("1 goes with 2", 1, x.joined(1, 2));
    }

    private static void joinedOfNone() {
        Check.sentence("Promise 19", "BAD: no such states.");
        StateShares x = new StateShares(2);
        x.least(50);
        int[] none = {-1, 2, 3, Integer.MIN_VALUE, Integer.MAX_VALUE};
        for (int s : none) {
            Check.due("joined(" + s + ", 0)", -1, x.joined(s, 0));
            Check.due("joined(1, " + s + ")", -1, x.joined(1, s));
            Check.due("joined(" + s + ", " + s + ")", -1, x.joined(s, s));
        }
        Check.due("those that are", 1, x.joined(0, 1));
    }
}
