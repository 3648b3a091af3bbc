/** A test for each sentence of "What it is" and "Terms" that names a boundary; those on rules are in BoundaryRules. */
final class BoundaryTerms {
    private static final String TERMS = "Terms";

    static final Check.Call[] TESTS = {
        BoundaryTerms::useOfAnObject,
        BoundaryTerms::states,
        BoundaryTerms::things,
        BoundaryTerms::years,
        BoundaryTerms::persons,
        BoundaryTerms::kinds,
        BoundaryTerms::newMarkForOld,
        BoundaryTerms::moves,
        BoundaryTerms::groupsGetStates,
        BoundaryTerms::groupsOfLeastNought,
        BoundaryTerms::lastGroup,
        BoundaryTerms::lastGroupAlone,
        BoundaryTerms::sharesByGroup,
        BoundaryTerms::sharesOfNone,
        BoundaryTerms::yearNought,
        BoundaryTerms::worksInOrder,
        BoundaryTerms::movesAtOnce,
        BoundaryTerms::eventsBehindMoves,
        BoundaryTerms::sixHundredBits,
        BoundaryTerms::stateThatThereIsNot,
        BoundaryTerms::leastTerms,
        BoundaryTerms::lowestEighteen,
        BoundaryTerms::behindTheLastPart,
    };

    private BoundaryTerms() {
    }

    private static void useOfAnObject() {
        Check.sentence("What it is", "An object is used for at most 512 calls after it has been made");
        StateShares x = new StateShares(2);
        for (int call = 1; call <= 510; call++) {
            Check.yes("call " + call, x.mark(call % 10, call % 12, call % 4, call % 2));
        }
        Check.yes("call 511", x.mark(9, 11, 3, 1));
        Check.due("call 512", 1, x.graded(9, 11));
        StateShares y = new StateShares(6);
        Model m = new Model(6);
        for (int call = 1; call <= 509; call += 4) {
            m.works(call % 11, call % 6, (call + 1) % 6, call, 1000);
            Check.yes("call " + call, y.works(call % 11, call % 6, (call + 1) % 6, call, 1000));
            m.start(call % 6, call, 997);
            Check.yes("call " + (call + 1), y.start(call % 6, call, 997));
            Check.due("call " + (call + 2), m.at(5, 11, 0), y.at(5, 11, 0));
            Check.due("call " + (call + 3), m.at(0, 11, 3), y.at(0, 11, 3));
        }
    }

    private static void states() {
        Check.sentence(TERMS, "STATES are 0 .. n - 1 (0 the best)");
        for (int n = 2; n <= 6; n++) {
            StateShares x = new StateShares(n);
            for (int s = 0; s < n; s++) {
                int other = s == 0 ? n - 1 : 0;
                Check.yes("mark with " + s, x.mark(0, 0, 0, s));
                Check.due("count from " + s, 0, x.count(s, other));
                Check.due("share from " + s, 0, x.share(s, other, 0));
                Check.yes("start of " + s, x.start(s, 1, 1));
                Check.due("at of " + s, 1, x.at(s, 0, 0));
                Check.yes("works from " + s, x.works(0, s, other, 0, 1));
                Check.yes("event to " + s, x.event(0, other, s, 0, 1));
                Check.due("span from " + s, 0, x.span(s, other, 0, 0));
                Check.yes("part2 of " + s, x.part2(s, 1));
                Check.due("joined of " + s, 0, x.joined(s, other));
                Check.due("target of " + s, 0, x.target(s, 1, 1));
            }
            noStates(x, -1);
            noStates(x, n);
        }
    }

    private static void noStates(StateShares x, int s) {
        Check.throwsIndex("mark with " + s, () -> x.mark(0, 0, 0, s));
        Check.throwsIndex("count from " + s, () -> x.count(s, 0));
        Check.throwsIndex("count to " + s, () -> x.count(0, s));
        Check.throwsIndex("share from " + s, () -> x.share(s, 0, 0));
        Check.throwsIndex("share to " + s, () -> x.share(0, s, 0));
        Check.throwsIndex("at of " + s, () -> x.at(s, 0, 0));
        Check.no("start of " + s, x.start(s, 1, 1));
        Check.no("works from " + s, x.works(0, s, 0, 0, 1));
        Check.no("works to " + s, x.works(0, 0, s, 0, 1));
        Check.no("event from " + s, x.event(0, s, 0, 0, 1));
        Check.no("event to " + s, x.event(0, 0, s, 0, 1));
        Check.due("span from " + s, -1, x.span(s, 0, 0, 0));
        Check.due("span to " + s, -1, x.span(0, s, 0, 0));
        Check.no("part2 of " + s, x.part2(s, 1));
        Check.due("joined with " + s, -1, x.joined(0, s));
        Check.due("joined of " + s, -1, x.joined(s, 0));
        Check.due("target of " + s, -1, x.target(s, 0, 1));
    }

    private static void things() {
        Check.sentence(TERMS, "THINGS 0 .. 9");
        StateShares x = new StateShares(3);
        for (int thing = 0; thing <= 9; thing++) {
            Check.yes("mark on " + thing, x.mark(thing, 0, 0, 2));
            Check.due("graded of " + thing, 2, x.graded(thing, 0));
            Check.due("drawn of " + thing, 2, x.drawn(1, thing, 0));
            Check.yes("kind of " + thing, x.kind(thing, 1));
        }
        int[] none = {-1, 10, Integer.MIN_VALUE, Integer.MAX_VALUE};
        for (int thing : none) {
            Check.no("mark on " + thing, x.mark(thing, 0, 0, 2));
            Check.due("graded of " + thing, -1, x.graded(thing, 0));
            Check.due("drawn of " + thing, -1, x.drawn(1, thing, 0));
            Check.no("kind of " + thing, x.kind(thing, 1));
        }
    }

    private static void years() {
        Check.sentence(TERMS, "YEARS 0 .. 11");
        StateShares x = new StateShares(3);
        for (int year = 0; year <= 11; year++) {
            Check.yes("mark in " + year, x.mark(4, year, 0, 0));
            Check.due("graded in " + year, 0, x.graded(4, year));
            Check.due("at in " + year, 1, x.at(0, year, 0));
            Check.yes("sums in " + year, x.sums(year));
            Check.due("drawn in " + year, 0, x.drawn(1, 4, year));
            Check.due("worth in " + year, 0, x.worth(year, 0));
        }
        int[] none = {-1, 12, Integer.MIN_VALUE, Integer.MAX_VALUE};
        for (int year : none) {
            Check.no("mark in " + year, x.mark(4, year, 0, 0));
            Check.due("graded in " + year, -1, x.graded(4, year));
            Check.due("at in " + year, -1, x.at(0, year, 0));
            Check.no("sums in " + year, x.sums(year));
            Check.due("drawn in " + year, -1, x.drawn(1, 4, year));
            Check.due("worth in " + year, -1, x.worth(year, 0));
        }
    }

    private static void persons() {
        Check.sentence(TERMS, "PERSONS 0 .. 3");
        StateShares x = new StateShares(2);
        for (int person = 0; person <= 3; person++) {
            Check.yes("mark by " + person, x.mark(0, 0, person, 0));
            Check.due("agree with " + person, 0, x.agree(person, 3 - person, 0));
        }
        int[] none = {-1, 4, Integer.MIN_VALUE, Integer.MAX_VALUE};
        for (int person : none) {
            Check.no("mark by " + person, x.mark(0, 0, person, 0));
            Check.due("agree of " + person, -1, x.agree(person, 0, 0));
            Check.due("agree with " + person, -1, x.agree(0, person, 0));
        }
        Check.grade(x, "n=4:1;0", 2);
        Check.due("four marks in all", 1, x.graded(0, 0));
    }

    private static void kinds() {
        Check.sentence(TERMS, "KINDS of things 0 .. 3 (each thing has kind 0 at first)");
        StateShares x = new StateShares(2);
        x.mark(3, 0, 0, 1);
        for (int thing = 0; thing <= 9; thing++) {
            Check.due("of one kind with thing 3: " + thing, 1, x.drawn(1, thing, 0));
        }
        for (int k = 0; k <= 3; k++) {
            Check.yes("kind " + k, x.kind(8, k));
            Check.due("thing 8 of kind " + k, k == 0 ? 1 : 0, x.drawn(1, 8, 0));
        }
        int[] none = {-1, 4, Integer.MIN_VALUE, Integer.MAX_VALUE};
        for (int k : none) {
            Check.no("kind " + k, x.kind(8, k));
        }
    }

    private static void newMarkForOld() {
        Check.sentence(TERMS, "MARKS: what state a person saw a thing in, in a year; a new one takes the place of the old one.");
        StateShares x = new StateShares(6);
        Check.grade(x, "n=1:max;0", 2);
        int[] seen = {5, 1, 3, 3};
        for (int state : seen) {
            Check.yes("mark", x.mark(2, 2, 2, state));
            Check.due("one mark, the new one", state, x.graded(2, 2));
        }
        x.mark(2, 2, 1, 3);
        Check.due("of another person: two marks", 0, x.graded(2, 2));
    }

    private static void moves() {
        Check.sentence(TERMS, "COUNTS: for a thing that is graded in a year and in the next one, a MOVE from the one state to the other.");
        StateShares x = new StateShares(3);
        Check.walk(x, 4, 0, 0, 1);
        Check.due("the first two years", 1, x.count(0, 1));
        Check.due("not the other way", 0, x.count(1, 0));
        Check.walk(x, 4, 10, 2, 1);
        Check.due("the last two years", 1, x.count(2, 1));
        x.mark(5, 0, 0, 2);
        Check.due("no move from the last year to the next thing's first one", 0, x.count(1, 2));
        x.mark(3, 11, 0, 2);
        Check.due("nor from the thing before", 0, x.count(2, 0));
        Check.walk(x, 7, 4, 0, -1, 0);
        Check.due("none over a year that is not graded", 0, x.count(0, 0));
        x.mark(7, 5, 3, 0);
        Check.due("two, once it is", 2, x.count(0, 0));
    }

    private static void groupsGetStates() {
        Check.sentence(TERMS, "GROUPS of neighbouring states, from 0 up: a group gets states until it has LEAST moves from them or more");
        StateShares x = new StateShares(6);
        // Moves from 0: 2, from 1: 1, from 2: 3, from 3: 2, from 4: 3.
        Check.walk(x, 0, 0, 0, 0, 1, 2, 2, 2, 3, 3, 4, 4, 4, 5);
        x.least(2);
        dueGroups(x, "just as many as LEAST is enough", "011234");
        x.least(3);
        dueGroups(x, "one less is not", "001223");
        x.least(4);
        dueGroups(x, "more than LEAST is enough", "000112");
        x.least(5);
        dueGroups(x, "from 0 up", "000111");
    }

    /** Groups as letters; the last one is joined to the one before by another sentence, where it is too small. */
    private static void dueGroups(StateShares x, String why, String groups) {
        for (int s = 1; s < 5; s++) {
            Check.due(why + ", joined(" + (s - 1) + ", " + s + ")", groups.charAt(s - 1) == groups.charAt(s) ? 1 : 0, x.joined(s - 1, s));
        }
    }

    private static void groupsOfLeastNought() {
        Check.sentence(TERMS, "(0 at first: each state is a group; a state without moves is one with LEAST 0, too)");
        StateShares x = new StateShares(6);
        for (int round = 0; round < 3; round++) {
            for (int a = 0; a < 6; a++) {
                for (int b = 0; b < 6; b++) {
                    Check.due("round " + round + ", joined(" + a + ", " + b + ")", a == b ? 1 : 0, x.joined(a, b));
                }
            }
            if (round == 0) {
                Check.walk(x, 0, 0, 0, 0, 3, 3);
            } else {
                x.least(50);
                Check.due("one group for a while", 1, x.joined(0, 5));
                x.least(0);
            }
        }
    }

    private static void lastGroup() {
        Check.sentence(TERMS, "if the last one has less than LEAST, it is one with the group before it");
        StateShares x = new StateShares(4);
        // Moves from 0: 2, from 1: 2, from 2: 1, from 3: 0.
        Check.walk(x, 0, 0, 0, 0, 1, 1, 2, 3);
        x.least(1);
        Check.due("3 has none", 1, x.joined(2, 3));
        Check.due("only with the one before it", 0, x.joined(1, 2));
        x.least(2);
        Check.due("2 and 3 have one less", 1, x.joined(1, 2));
        Check.due("both of them go there", 1, x.joined(1, 3));
        Check.due("not to the first one", 0, x.joined(0, 1));
        Check.walk(x, 0, 5, 3, 3);
        Check.due("now they have as many", 0, x.joined(1, 2));
        Check.due("and are one", 1, x.joined(2, 3));
    }

    private static void lastGroupAlone() {
        Check.sentence(TERMS, ", if there is one.");
        for (int n = 2; n <= 6; n++) {
            StateShares x = new StateShares(n);
            x.least(50);
            for (int s = 1; s < n; s++) {
                Check.due("without moves, joined(0, " + s + ")", 1, x.joined(0, s));
            }
            Check.walk(x, 0, 0, 0, n - 1, n - 1, 0);
            x.least(4);
            Check.due("one less than LEAST in all", 1, x.joined(0, n - 1));
            Check.share(x, 0, 0, 1, 2);
            x.least(3);
            Check.due("just LEAST in all", 1, x.joined(0, n - 1));
        }
    }

    private static void sharesByGroup() {
        Check.sentence(TERMS, "The SHARE that goes from state a to b: of all moves from states s of a's group to s + d, "
            + "with 0 <= a + d < n, those with d = b - a.");
        StateShares x = new StateShares(3);
        // Steps: 2 from 0 to 2; 0 from 2; -2 from 2 to 0; 1 from 0 to 1; -1 from 1 to 0.
        Check.walk(x, 0, 0, 0, 2, 2, 0, 1, 0);
        Check.share(x, 0, 1, 1, 2);
        Check.share(x, 0, 2, 1, 2);
        Check.share(x, 1, 0, 1, 1);
        x.least(50);
        for (int a = 0; a < 3; a++) {
            for (int b = 0; b < 3; b++) {
                Check.share(x, a, b, 1, 3);
            }
        }
        x.mark(1, 0, 0, 1);
        x.mark(1, 1, 0, 2);
        // A second step of 1, which 2 can't take: 2 still has steps -2, -1 and 0.
        Check.share(x, 2, 0, 1, 3);
        Check.share(x, 1, 2, 1, 2);
        Check.share(x, 0, 2, 1, 4);
        x.least(0);
        Check.share(x, 1, 2, 1, 2);
        Check.share(x, 0, 2, 1, 2);
    }

    private static void sharesOfNone() {
        Check.sentence(TERMS, "If there are none, all stays: 1 for b = a, else 0.");
        StateShares x = new StateShares(3);
        for (int a = 0; a < 3; a++) {
            for (int b = 0; b < 3; b++) {
                Check.share(x, a, b, a == b ? 1 : 0, 1);
            }
        }
        Check.walk(x, 0, 0, 0, 1, 2);
        x.least(50);
        Check.share(x, 0, 1, 1, 1);
        Check.share(x, 1, 2, 1, 1);
        // Steps of 1 alone, and the last state can take none of them.
        Check.share(x, 2, 2, 1, 1);
        Check.share(x, 2, 0, 0, 1);
        Check.at(x, 2, 11, 1, 1);
    }

    private static void yearNought() {
        Check.sentence(TERMS, "FORETOLD: at year 0 state 0 has 1 and others 0, or what was told by start().");
        for (int n = 2; n <= 6; n++) {
            StateShares x = new StateShares(n);
            Check.walk(x, 0, 0, n - 1, 0, n - 1);
            x.works(0, 0, 1, 1, 1);
            for (int s = 0; s < n; s++) {
                Check.at(x, s, 0, s == 0 ? 1 : 0, 1);
            }
            x.start(n - 1, 2, 5);
            Check.at(x, n - 1, 0, 2, 5);
            Check.at(x, 0, 0, 0, 1);
        }
    }

    private static void worksInOrder() {
        Check.sentence(TERMS, "From a year to the next one: first the WORKS of that year, in the order in which they were told: "
            + "of what state a has, a part goes to b;");
        StateShares x = new StateShares(3);
        x.works(0, 0, 1, 1, 2);
        x.works(0, 1, 2, 1, 2);
        Check.at(x, 0, 1, 1, 2);
        Check.at(x, 1, 1, 1, 4);
        Check.at(x, 2, 1, 1, 4);
        StateShares y = new StateShares(3);
        y.works(0, 1, 2, 1, 2);
        y.works(0, 0, 1, 1, 2);
        Check.at(y, 1, 1, 1, 2);
        Check.at(y, 2, 1, 0, 1);
        // All of 0 goes to 2 by itself: works come before it.
        Check.walk(y, 0, 0, 0, 2);
        Check.at(y, 1, 1, 1, 2);
        Check.at(y, 2, 1, 1, 2);
        Check.at(y, 0, 0, 1, 1);
        Check.due("works of the year before the last", 1, y.works(10, 2, 0, 1, 1) ? 1 : 0);
        Check.at(y, 2, 10, 1, 2);
        // What came to 0 moves on to 2 in the same year.
        Check.at(y, 2, 11, 1, 2);
    }

    private static void movesAtOnce() {
        Check.sentence(TERMS, "then all states move by shares at once;");
        StateShares x = new StateShares(3);
        // All of 0 goes to 1, all of 1 to 2, all of 2 to 0: what came moves no further that year.
        Check.walk(x, 0, 0, 0, 1, 2, 0);
        for (int year = 0; year < 12; year++) {
            for (int s = 0; s < 3; s++) {
                Check.at(x, s, year, s == year % 3 ? 1 : 0, 1);
            }
        }
    }

    private static void eventsBehindMoves() {
        Check.sentence(TERMS, "then the EVENTS of that year, like works.");
        StateShares x = new StateShares(3);
        Check.walk(x, 0, 0, 0, 1);
        x.event(0, 0, 2, 1, 1);
        // Nothing is left in 0 when the event comes.
        Check.at(x, 1, 1, 1, 1);
        x.event(0, 1, 2, 1, 2);
        x.event(0, 2, 0, 1, 2);
        Check.at(x, 1, 1, 1, 2);
        Check.at(x, 2, 1, 1, 4);
        Check.at(x, 0, 1, 1, 4);
        Check.at(x, 0, 2, 0, 1);
        Check.yes("event of the year before the last", x.event(10, 1, 0, 1, 1));
        Check.at(x, 1, 10, 3, 4);
        Check.at(x, 0, 11, 3, 4);
    }

    private static void sixHundredBits() {
        Check.sentence(TERMS, "If an upper or lower part in least terms would have more than 600 bits, that year and all behind it are TOO LONG.");
        StateShares x = new StateShares(2);
        Check.halve(x, 599);
        // A lower part of 2^599: 600 bits.
        Check.due("600 bits below", 1, x.at(0, 3, 0));
        Check.due("600 bits below", 1, x.at(0, 11, 0));
        Check.yes("one bit more", x.event(9, 0, 1, 1, 2));
        Check.due("the year before", 1, x.at(0, 9, 0));
        Check.due("601 bits below", -1, x.at(0, 10, 0));
        Check.due("the year behind", -1, x.at(0, 11, 0));
        Check.yes("all back to 0 behind it", x.works(10, 1, 0, 1, 1));
        Check.due("too long all the same", -1, x.at(0, 11, 0));
        longAbove();
        longUnlessInLeastTerms();
    }

    private static void longAbove() {
        StateShares x = new StateShares(6);
        for (int s = 0; s < 6; s++) {
            x.start(s, 1, 1);
        }
        Check.halve(x, 597);
        for (int s = 2; s < 6; s++) {
            x.works(5, s, 1, 1, 1);
        }
        // State 1 has 6 - 2^-597 then: 600 bits above, 598 below.
        Check.yes("600 bits above", x.at(1, 6, 0) > 0);
        Check.yes("year 11, too", x.at(1, 11, 0) > 0);
        Check.yes("half of 0 more", x.works(5, 0, 1, 1, 2));
        Check.due("601 bits above, 599 below", -1, x.at(1, 6, 0));
        Check.due("for the other states, too", -1, x.at(5, 6, 0));
        Check.yes("the year before", x.at(1, 5, 0) > 0);
    }

    private static void longUnlessInLeastTerms() {
        StateShares x = new StateShares(2);
        for (int i = 0; i < 132; i++) {
            x.works(i % 11, 0, 1, 500, 1000);
            x.event(i % 11, 0, 1, 500, 1000);
        }
        // 2^264, though 1,000^264 would have over 2,600 bits.
        long[] lower = {506025761187823616L, 74403984394101141L, 162224104410437116L, 844752946028434172L, 29642774L};
        for (int k = 0; k < lower.length; k++) {
            Check.due("lower part of 2^-264, part " + (2 * k + 1), lower[k], x.at(0, 11, 2 * k + 1));
        }
        Check.due("upper part of 2^-264", 1, x.at(0, 11, 0));
    }

    private static void stateThatThereIsNot() {
        Check.sentence(TERMS, "A state that there is not throws the machine's index exception where a call says so: "
            + "of mark() behind all that makes it false, of others before anything else (of two states the first one).");
        StateShares x = new StateShares(4);
        int[] none = {-1, 4, Integer.MIN_VALUE, Integer.MAX_VALUE};
        for (int s : none) {
            Check.throwsIndex("mark(0, 0, 0, " + s + ")", () -> x.mark(0, 0, 0, s));
            Check.no("mark(10, 0, 0, " + s + ")", x.mark(10, 0, 0, s));
            Check.no("mark(0, 12, 0, " + s + ")", x.mark(0, 12, 0, s));
            Check.no("mark(0, 0, 4, " + s + ")", x.mark(0, 0, 4, s));
            Check.throwsIndex("count(" + s + ", 0)", () -> x.count(s, 0));
            Check.throwsIndex("count(0, " + s + ")", () -> x.count(0, s));
            Check.throwsIndex("count(" + s + ", " + s + ")", () -> x.count(s, s));
            Check.throwsIndex("share(" + s + ", 0, -1)", () -> x.share(s, 0, -1));
            Check.throwsIndex("share(0, " + s + ", -1)", () -> x.share(0, s, -1));
            Check.throwsIndex("share(" + s + ", -1, 99)", () -> x.share(s, -1, 99));
            Check.throwsIndex("at(" + s + ", 0, 0)", () -> x.at(s, 0, 0));
            Check.throwsIndex("at(" + s + ", 12, 0)", () -> x.at(s, 12, 0));
            Check.throwsIndex("at(" + s + ", -1, -1)", () -> x.at(s, -1, -1));
        }
        Check.halve(x, 600);
        Check.throwsIndex("at(4, 3, 0), too long", () -> x.at(4, 3, 0));
    }

    private static void leastTerms() {
        Check.sentence(TERMS, "FRACTIONS are told in least terms, 0 as 0 / 1,");
        StateShares x = new StateShares(2);
        x.start(0, 600, 1000);
        Check.at(x, 0, 0, 3, 5);
        Check.at(x, 1, 0, 0, 1);
        x.start(1, 1000, 1000);
        Check.at(x, 1, 0, 1, 1);
        x.start(0, 0, 1000);
        Check.at(x, 0, 0, 0, 1);
        Check.walk(x, 0, 0, 0, 0, 0, 1, 0, 1);
        Check.share(x, 0, 0, 1, 2);
        Check.share(x, 1, 1, 0, 1);
        Check.share(x, 1, 0, 1, 1);
        Check.worth(x, 0, 0, 0, 1);
    }

    private static void lowestEighteen() {
        Check.sentence(TERMS, "by PARTS: part 0 and 1 the lowest eighteen digits of the upper and of the lower one, "
            + "2 and 3 the next eighteen, and so on");
        StateShares x = new StateShares(2);
        for (int i = 0; i < 5; i++) {
            x.works(0, 0, 1, 999, 1000);
        }
        x.works(0, 0, 1, 990, 1000);
        // 10^17, all in one part; the rest is 10^17 - 1.
        Check.at(x, 0, 1, 1, 100000000000000000L);
        Check.at(x, 1, 1, 99999999999999999L, 100000000000000000L);
        x.works(0, 0, 1, 9, 10);
        // 10^18, of which part 1 is 0 and part 3 is 1.
        Check.at(x, 0, 1, 1, 0);
        Check.due("at(0, 1, 3)", 1, x.at(0, 1, 3));
        Check.due("at(1, 1, 0)", 999999999999999999L, x.at(1, 1, 0));
        Check.due("at(1, 1, 2)", 0, x.at(1, 1, 2));
        StateShares y = new StateShares(2);
        for (int i = 0; i < 12; i++) {
            y.works(0, 0, 1, 999, 1000);
        }
        y.event(0, 0, 1, 1, 10);
        // 9 by 10^37; the rest is 10^37 - 9 by 10^37.
        long[] upper = {999999999999999991L, 999999999999999999L, 9};
        long[] lower = {0, 0, 10};
        for (int k = 0; k < 3; k++) {
            Check.due("at(1, 1, " + 2 * k + ")", upper[k], y.at(1, 1, 2 * k));
            Check.due("at(1, 1, " + (2 * k + 1) + ")", lower[k], y.at(1, 1, 2 * k + 1));
            Check.due("at(0, 1, " + 2 * k + ")", k == 0 ? 9 : 0, y.at(0, 1, 2 * k));
            Check.due("at(0, 1, " + (2 * k + 1) + ")", lower[k], y.at(0, 1, 2 * k + 1));
        }
    }

    private static void behindTheLastPart() {
        Check.sentence(TERMS, "(0 behind the last ones, and for parts below 0).");
        StateShares x = new StateShares(2);
        Check.halve(x, 599);
        x.part2(0, 7);
        // 2^599 has 181 digits: the last one is the first of part 21.
        Check.due("the last part", 2, x.at(0, 3, 21));
        int[] none = {22, 23, 24, 41, 42, 43, 44, 45, 223, 224, 225, 1 << 30, (1 << 30) + 1, Integer.MAX_VALUE - 1, Integer.MAX_VALUE,
            -1, -2, -3, -42, Integer.MIN_VALUE, Integer.MIN_VALUE + 1};
        for (int part : none) {
            Check.due("at(0, 3, " + part + ")", 0, x.at(0, 3, part));
            Check.due("share(0, 0, " + part + ")", 0, x.share(0, 0, part));
            if (part != -1) {
                Check.due("worth(3, " + part + ")", 0, x.worth(3, part));
            }
        }
        Check.due("share(0, 0, 2)", 0, x.share(0, 0, 2));
        Check.due("share(0, 0, 3)", 0, x.share(0, 0, 3));
    }
}
