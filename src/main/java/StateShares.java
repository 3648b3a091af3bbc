/**
 * How things of a road wear by states: marks become states by rules, pairs of years become moving
 * shares, and shares of states are foretold exactly.
 */
public final class StateShares {
    public static final int BAD = -1;

    private static final int THINGS = 10;
    private static final int YEARS = 12;
    private static final int PERSONS = 4;
    private static final int KINDS = 4;
    private static final int FEWEST_STATES = 2;
    private static final int MOST_STATES = 6;
    private static final int MOST_LEAST = 50;
    private static final int MOST_BELOW = 1000;
    private static final int MOST_WORTH = 1000000;

    private static final long DRAW_FACTOR = 6364136223846793005L;
    private static final long DRAW_MORE = 1442695040888963407L;
    private static final long DRAW_PER_THING = 1000003L;
    private static final long DRAW_PER_YEAR = 7919L;
    private static final int DRAW_LOWER_BITS = 33;

    // Every lower part is a product of numbers up to 1,000, so these are all primes it can have.
    private static final int[] PRIMES = {
        2, 3, 5, 7, 11, 13, 17, 19, 23, 29, 31, 37, 41, 43, 47, 53, 59, 61, 67, 71, 73, 79, 83,
        89, 97, 101, 103, 107, 109, 113, 127, 131, 137, 139, 149, 151, 157, 163, 167, 173, 179,
        181, 191, 193, 197, 199, 211, 223, 227, 229, 233, 239, 241, 251, 257, 263, 269, 271,
        277, 281, 283, 293, 307, 311, 313, 317, 331, 337, 347, 349, 353, 359, 367, 373, 379,
        383, 389, 397, 401, 409, 419, 421, 431, 433, 439, 443, 449, 457, 461, 463, 467, 479,
        487, 491, 499, 503, 509, 521, 523, 541, 547, 557, 563, 569, 571, 577, 587, 593, 599,
        601, 607, 613, 617, 619, 631, 641, 643, 647, 653, 659, 661, 673, 677, 683, 691, 701,
        709, 719, 727, 733, 739, 743, 751, 757, 761, 769, 773, 787, 797, 809, 811, 821, 823,
        827, 829, 839, 853, 857, 859, 863, 877, 881, 883, 887, 907, 911, 919, 929, 937, 941,
        947, 953, 967, 971, 977, 983, 991, 997
    };

    private final int n;
    private final Rules rules;
    private final Marks marks;
    private final Moves moves;
    private final Transfers worksTold;
    private final Transfers eventsTold;
    private final Forecast forecast;
    private boolean movesAreOld;

    public StateShares(int states) {
        n = Math.max(FEWEST_STATES, Math.min(MOST_STATES, states));
        rules = new Rules(n);
        marks = new Marks();
        moves = new Moves(n);
        worksTold = new Transfers();
        eventsTold = new Transfers();
        forecast = new Forecast(n, moves, worksTold, eventsTold);
        movesAreOld = true;
    }

    public boolean mark(int thing, int year, int person, int state) throws ArrayIndexOutOfBoundsException {
        if (!isThing(thing) || !isYear(year) || !isPerson(person)) {
            return false;
        }
        needState(state);
        marks.see(thing, year, person, state);
        marks.judgeOne(thing, year, rules);
        movesAreOld = true;
        return true;
    }

    public boolean unit(int u) {
        return rules.collect(u);
    }

    public int grade() {
        int answer = rules.readCollected();
        if (answer > 0) {
            marks.judgeAll(rules);
            movesAreOld = true;
        }
        return answer;
    }

    public int graded(int thing, int year) {
        return isThing(thing) && isYear(year) ? marks.stateOf(thing, year) : BAD;
    }

    public int count(int from, int to) throws ArrayIndexOutOfBoundsException {
        needState(from);
        needState(to);
        renewMoves();
        return moves.number(from, to);
    }

    public boolean least(int n) {
        if (n < 0 || n > MOST_LEAST) {
            return false;
        }
        moves.setLeast(n);
        movesAreOld = true;
        return true;
    }

    public long share(int from, int to, int part) throws ArrayIndexOutOfBoundsException {
        needState(from);
        needState(to);
        renewMoves();
        return smallPart(moves.top(from, to), moves.bottom(from), part);
    }

    public long at(int state, int year, int part) throws ArrayIndexOutOfBoundsException {
        needState(state);
        return foretold(year) ? forecast.stateDigits(state, year, part) : BAD;
    }

    public boolean start(int state, long above, long below) {
        if (!isState(state) || !isFraction(above, below)) {
            return false;
        }
        forecast.begin(state, (int) above, (int) below);
        return true;
    }

    public boolean works(int year, int from, int to, long above, long below) {
        return tell(worksTold, year, from, to, above, below);
    }

    public boolean event(int year, int from, int to, long above, long below) {
        return tell(eventsTold, year, from, to, above, below);
    }

    public boolean sums(int year) {
        return foretold(year) && forecast.isOneTogether(year);
    }

    public int drawn(long seed, int thing, int year) {
        if (!isThing(thing) || !isYear(year)) {
            return BAD;
        }
        renewMoves();
        int state = marks.firstState(thing);
        for (int y = 0; y < year; y++) {
            state = moves.goal(state, draw(seed, thing, y));
        }
        return state;
    }

    public long span(int from, int to, int end, int part) {
        if (!isState(from) || !isState(to) || end < 0 || end > 1 || part < 0 || part > 1) {
            return BAD;
        }
        renewMoves();
        int above = moves.number(from, to) + 2 * end;
        return smallPart(above, moves.total(from) + 2, part);
    }

    public boolean part2(int state, long worth) {
        if (!isState(state) || worth < -MOST_WORTH || worth > MOST_WORTH) {
            return false;
        }
        forecast.setWorth(state, (int) worth);
        return true;
    }

    public long worth(int year, int part) {
        return foretold(year) ? forecast.worthDigits(year, part) : BAD;
    }

    public long agree(int personA, int personB, int part) {
        if (!isPerson(personA) || !isPerson(personB) || personA == personB || part < 0 || part > 1) {
            return BAD;
        }
        int both = marks.seenByBoth(personA, personB);
        int same = 0;
        int chance = 0;
        for (int state = 0; state < n; state++) {
            same += marks.sameByBoth(personA, personB, state);
            chance += marks.seenAmongBoth(personA, personB, state) * marks.seenAmongBoth(personB, personA, state);
        }
        int below = both * both - chance;
        return below <= 0 ? 0 : smallPart(both * same - chance, below, part);
    }

    public int joined(int a, int b) {
        if (!isState(a) || !isState(b)) {
            return BAD;
        }
        renewMoves();
        return moves.inOneGroup(a, b) ? 1 : 0;
    }

    public int target(int state, long above, long below) {
        if (!isState(state) || !isFraction(above, below)) {
            return BAD;
        }
        for (int year = 0; year < YEARS && foretold(year); year++) {
            if (forecast.reaches(year, state, (int) above, (int) below)) {
                return year;
            }
        }
        return BAD;
    }

    public int missing(int k) {
        return marks.gap(k);
    }

    public boolean kind(int thing, int k) {
        if (!isThing(thing) || k < 0 || k >= KINDS) {
            return false;
        }
        marks.setKind(thing, k);
        return true;
    }

    private boolean isState(int state) {
        return state >= 0 && state < n;
    }

    private static boolean isThing(int thing) {
        return thing >= 0 && thing < THINGS;
    }

    private static boolean isYear(int year) {
        return year >= 0 && year < YEARS;
    }

    private static boolean isPerson(int person) {
        return person >= 0 && person < PERSONS;
    }

    private static boolean isFraction(long above, long below) {
        return above >= 0 && above <= below && below > 0 && below <= MOST_BELOW;
    }

    private void needState(int state) {
        if (!isState(state)) {
            throw new ArrayIndexOutOfBoundsException("no such state");
        }
    }

    private boolean tell(Transfers told, int year, int from, int to, long above, long below) {
        if (!isYear(year) || year == YEARS - 1 || !isState(from) || !isState(to) || from == to
                || !isFraction(above, below) || !told.add(year, from, to, (int) above, (int) below)) {
            return false;
        }
        forecast.forget(year + 1);
        return true;
    }

    private void renewMoves() {
        if (movesAreOld) {
            movesAreOld = false;
            // Year 0 does not hang on shares.
            if (moves.renew(marks)) {
                forecast.forget(1);
            }
        }
    }

    private boolean foretold(int year) {
        if (!isYear(year)) {
            return false;
        }
        renewMoves();
        return forecast.stands(year);
    }

    private static long draw(long seed, int thing, int year) {
        long v = seed + DRAW_PER_THING * thing + DRAW_PER_YEAR * year;
        v = v * DRAW_FACTOR + DRAW_MORE;
        v = v * DRAW_FACTOR + DRAW_MORE;
        return v >>> DRAW_LOWER_BITS;
    }

    /** Part 0 or 1 of a fraction whose two parts are short; below is above 0. */
    private static long smallPart(long above, long below, int part) {
        long common = Math.max(1, commonDivisor(Math.abs(above), below));
        if (part == 0) {
            return above / common;
        }
        return part == 1 ? below / common : 0;
    }

    /** Of two numbers that are not below 0; 90 steps are enough for any two longs. */
    private static long commonDivisor(long a, long b) {
        long greater = a;
        long smaller = b;
        for (int step = 0; step < 100 && smaller > 0; step++) {
            long rest = greater % smaller;
            greater = smaller;
            smaller = rest;
        }
        return greater;
    }

    /** The rules for grading: the signs collected, their words, and the rules that hold now. */
    private static final class Rules {
        private static final int MOST_SIGNS = 120;
        private static final int FIRST_SIGN = 32;
        private static final int LAST_SIGN = 126;
        private static final int MOST_DIGITS = 3;
        private static final int NONE = -1;

        private final int n;
        private final char[] text;
        private int length;
        private final int[] wordStarts;
        private final int[] wordEnds;
        private int words;
        private int next;
        private RuleList holding;
        private RuleList draft;

        Rules(int states) {
            n = states;
            text = new char[MOST_SIGNS];
            wordStarts = new int[MOST_SIGNS];
            wordEnds = new int[MOST_SIGNS];
            holding = new RuleList();
            draft = new RuleList();
            holding.add(RuleList.ALWAYS, 0, '=', 0, RuleList.GREATEST);
        }

        boolean collect(int sign) {
            if (sign < FIRST_SIGN || sign > LAST_SIGN || length >= MOST_SIGNS) {
                return false;
            }
            text[length] = (char) sign;
            length++;
            return true;
        }

        int judge(int[] sorted, int size) {
            return holding.judge(sorted, size);
        }

        int readCollected() {
            splitWords();
            length = 0;
            next = 0;
            draft.clear();
            if (!readRules()) {
                return -1 - next;
            }
            RuleList old = holding;
            holding = draft;
            draft = old;
            return holding.size();
        }

        private void splitWords() {
            words = 0;
            int from = 0;
            // Every round goes on by one sign at least.
            for (int round = 0; round < MOST_SIGNS && from < length; round++) {
                int end = wordEnd(from);
                if (text[from] != ' ' && words < MOST_SIGNS) {
                    wordStarts[words] = from;
                    wordEnds[words] = end;
                    words++;
                }
                from = end;
            }
        }

        private int wordEnd(int from) {
            int end = from + 1;
            if (isLetter(text[from])) {
                while (end < length && isLetter(text[end])) {
                    end++;
                }
            } else if (isDigit(text[from])) {
                while (end < length && isDigit(text[end])) {
                    end++;
                }
            }
            return end;
        }

        private static boolean isLetter(char c) {
            return c >= 'a' && c <= 'z' || c >= 'A' && c <= 'Z';
        }

        private static boolean isDigit(char c) {
            return c >= '0' && c <= '9';
        }

        /** False: next is the first word that is wrong. */
        private boolean readRules() {
            for (int rule = 0; rule < RuleList.MOST_RULES; rule++) {
                if (!readRule()) {
                    return false;
                }
                if (next == words) {
                    return true;
                }
                if (!wordIs(next, ";")) {
                    return false;
                }
                next++;
            }
            return false;
        }

        private boolean readRule() {
            int amount = amountAt(next);
            if (amount == RuleList.ALWAYS) {
                return readValue(RuleList.ALWAYS, 0, '=', 0);
            }
            next++;
            int counted = 0;
            if (amount == RuleList.MARKS_OF) {
                counted = numberAt(next);
                if (counted == NONE) {
                    return false;
                }
                next++;
            }
            if (!isComparison(next)) {
                return false;
            }
            char comparison = text[wordStarts[next]];
            next++;
            int bound = numberAt(next);
            if (bound == NONE) {
                return false;
            }
            next++;
            if (!wordIs(next, ":")) {
                return false;
            }
            next++;
            return readValue(amount, counted, comparison, bound);
        }

        private boolean readValue(int amount, int counted, char comparison, int bound) {
            int value = valueAt(next);
            if (value == NONE) {
                return false;
            }
            next++;
            draft.add(amount, counted, comparison, bound, value);
            return true;
        }

        /** The amount of which a condition begins at a word; ALWAYS: none begins there. */
        private int amountAt(int word) {
            if (wordIs(word, "n")) {
                return RuleList.MARKS;
            }
            if (wordIs(word, "#")) {
                return RuleList.MARKS_OF;
            }
            // These two are values as well: what stands behind them tells.
            if (wordIs(word, "max") && isComparison(word + 1)) {
                return RuleList.MOST;
            }
            if (wordIs(word, "min") && isComparison(word + 1)) {
                return RuleList.FEWEST;
            }
            return RuleList.ALWAYS;
        }

        private int valueAt(int word) {
            if (wordIs(word, "max")) {
                return RuleList.GREATEST;
            }
            if (wordIs(word, "min")) {
                return RuleList.LEAST;
            }
            if (wordIs(word, "mid")) {
                return RuleList.MIDDLE;
            }
            int number = numberAt(word);
            return number < n ? number : NONE;
        }

        private boolean isComparison(int word) {
            return wordIs(word, "<") || wordIs(word, "=") || wordIs(word, ">");
        }

        private boolean wordIs(int word, String wanted) {
            if (word < 0 || word >= words || wordEnds[word] - wordStarts[word] != wanted.length()) {
                return false;
            }
            for (int i = 0; i < wanted.length(); i++) {
                if (text[wordStarts[word] + i] != wanted.charAt(i)) {
                    return false;
                }
            }
            return true;
        }

        private int numberAt(int word) {
            if (word < 0 || word >= words || wordEnds[word] - wordStarts[word] > MOST_DIGITS
                    || !isDigit(text[wordStarts[word]])) {
                return NONE;
            }
            int number = 0;
            for (int i = wordStarts[word]; i < wordEnds[word]; i++) {
                number = number * 10 + (text[i] - '0');
            }
            return number;
        }
    }

    /** Rules that have been read, one a place in every row. */
    private static final class RuleList {
        static final int MOST_RULES = 20;
        static final int ALWAYS = 0;
        static final int MARKS = 1;
        static final int MOST = 2;
        static final int FEWEST = 3;
        static final int MARKS_OF = 4;
        // Values that are no states, beyond every number that a text can hold.
        static final int GREATEST = 1000;
        static final int LEAST = 1001;
        static final int MIDDLE = 1002;

        private final int[] amounts;
        private final int[] counted;
        private final char[] comparisons;
        private final int[] bounds;
        private final int[] values;
        private int size;

        RuleList() {
            amounts = new int[MOST_RULES];
            counted = new int[MOST_RULES];
            comparisons = new char[MOST_RULES];
            bounds = new int[MOST_RULES];
            values = new int[MOST_RULES];
        }

        void clear() {
            size = 0;
        }

        int size() {
            return size;
        }

        void add(int amount, int number, char comparison, int bound, int value) {
            if (size < MOST_RULES) {
                amounts[size] = amount;
                counted[size] = number;
                comparisons[size] = comparison;
                bounds[size] = bound;
                values[size] = value;
                size++;
            }
        }

        /** The state for marks in order; there are 1 .. sorted.length of them. */
        int judge(int[] sorted, int marks) {
            if (marks < 1 || marks > sorted.length) {
                return BAD;
            }
            for (int rule = 0; rule < size; rule++) {
                if (holds(rule, sorted, marks)) {
                    return valueOf(values[rule], sorted, marks);
                }
            }
            return sorted[marks - 1];
        }

        private boolean holds(int rule, int[] sorted, int marks) {
            if (amounts[rule] == ALWAYS) {
                return true;
            }
            int amount = amountOf(rule, sorted, marks);
            if (comparisons[rule] == '<') {
                return amount < bounds[rule];
            }
            return comparisons[rule] == '>' ? amount > bounds[rule] : amount == bounds[rule];
        }

        private int amountOf(int rule, int[] sorted, int marks) {
            switch (amounts[rule]) {
                case MARKS:
                    return marks;
                case MOST:
                    return sorted[marks - 1];
                case FEWEST:
                    return sorted[0];
                default:
                    return howMany(counted[rule], sorted, marks);
            }
        }

        private static int howMany(int state, int[] sorted, int marks) {
            int found = 0;
            for (int i = 0; i < marks; i++) {
                if (sorted[i] == state) {
                    found++;
                }
            }
            return found;
        }

        private static int valueOf(int value, int[] sorted, int marks) {
            switch (value) {
                case GREATEST:
                    return sorted[marks - 1];
                case LEAST:
                    return sorted[0];
                case MIDDLE:
                    return sorted[marks / 2];
                default:
                    return value;
            }
        }
    }

    /** What persons saw, the states to which things are graded by it, and the things' kinds. */
    private static final class Marks {
        private static final int PLACES = THINGS * YEARS;

        private final int[] seen;
        private final int[] states;
        private final int[] kinds;
        private final int[] sorted;

        Marks() {
            seen = new int[PLACES * PERSONS];
            states = new int[PLACES];
            kinds = new int[THINGS];
            sorted = new int[PERSONS];
            for (int i = 0; i < seen.length; i++) {
                seen[i] = BAD;
            }
            for (int i = 0; i < states.length; i++) {
                states[i] = BAD;
            }
        }

        private static int place(int thing, int year) {
            return thing * YEARS + year;
        }

        void see(int thing, int year, int person, int state) {
            seen[place(thing, year) * PERSONS + person] = state;
        }

        void setKind(int thing, int k) {
            kinds[thing] = k;
        }

        int stateOf(int thing, int year) {
            return states[place(thing, year)];
        }

        void judgeOne(int thing, int year, Rules rules) {
            judgePlace(place(thing, year), rules);
        }

        void judgeAll(Rules rules) {
            for (int place = 0; place < PLACES; place++) {
                judgePlace(place, rules);
            }
        }

        private void judgePlace(int place, Rules rules) {
            int size = sortMarks(place);
            states[place] = size == 0 ? BAD : rules.judge(sorted, size);
        }

        private int sortMarks(int place) {
            int size = 0;
            for (int person = 0; person < PERSONS; person++) {
                int state = seen[place * PERSONS + person];
                if (state != BAD) {
                    int hole = size;
                    while (hole > 0 && sorted[hole - 1] > state) {
                        sorted[hole] = sorted[hole - 1];
                        hole--;
                    }
                    sorted[hole] = state;
                    size++;
                }
            }
            return size;
        }

        /** The state of a single thing at year 0, before it is drawn on. */
        int firstState(int thing) {
            int own = stateOf(thing, 0);
            if (own != BAD) {
                return own;
            }
            for (int other = 0; other < THINGS; other++) {
                if (kinds[other] == kinds[thing] && stateOf(other, 0) != BAD) {
                    return stateOf(other, 0);
                }
            }
            return 0;
        }

        int gap(int k) {
            int left = k;
            for (int thing = 0; thing < THINGS; thing++) {
                int last = lastGraded(thing);
                boolean wasGraded = false;
                for (int year = 0; year < last; year++) {
                    if (stateOf(thing, year) != BAD) {
                        wasGraded = true;
                    } else if (wasGraded) {
                        if (left == 0) {
                            return 16 * thing + year;
                        }
                        left--;
                    }
                }
            }
            return BAD;
        }

        private int lastGraded(int thing) {
            for (int year = YEARS - 1; year >= 0; year--) {
                if (stateOf(thing, year) != BAD) {
                    return year;
                }
            }
            return BAD;
        }

        private boolean bothSaw(int place, int personA, int personB) {
            return seen[place * PERSONS + personA] != BAD && seen[place * PERSONS + personB] != BAD;
        }

        int seenByBoth(int personA, int personB) {
            int found = 0;
            for (int place = 0; place < PLACES; place++) {
                if (bothSaw(place, personA, personB)) {
                    found++;
                }
            }
            return found;
        }

        /** How often one person saw a state where another one saw anything. */
        int seenAmongBoth(int person, int other, int state) {
            int found = 0;
            for (int place = 0; place < PLACES; place++) {
                if (bothSaw(place, person, other) && seen[place * PERSONS + person] == state) {
                    found++;
                }
            }
            return found;
        }

        int sameByBoth(int personA, int personB, int state) {
            int found = 0;
            for (int place = 0; place < PLACES; place++) {
                if (seen[place * PERSONS + personA] == state && seen[place * PERSONS + personB] == state) {
                    found++;
                }
            }
            return found;
        }
    }

    /** Moves between states, groups of states, and the shares that follow from both. */
    private static final class Moves {
        private final int n;
        private final int[] numbers;
        private final int[] totals;
        private final int[] groups;
        private final int[] tops;
        private final int[] bottoms;
        private int leastMoves;
        private boolean changed;

        Moves(int states) {
            n = states;
            numbers = new int[MOST_STATES * MOST_STATES];
            totals = new int[MOST_STATES];
            groups = new int[MOST_STATES];
            tops = new int[MOST_STATES * MOST_STATES];
            bottoms = new int[MOST_STATES];
        }

        void setLeast(int moves) {
            leastMoves = moves;
        }

        int number(int from, int to) {
            return numbers[from * MOST_STATES + to];
        }

        int total(int from) {
            return totals[from];
        }

        boolean inOneGroup(int a, int b) {
            return groups[a] == groups[b];
        }

        int top(int from, int to) {
            return tops[from * MOST_STATES + to];
        }

        int bottom(int from) {
            return bottoms[from];
        }

        /** True: a share is another one than before. */
        boolean renew(Marks marks) {
            changed = false;
            countAll(marks);
            groupAll();
            for (int state = 0; state < n; state++) {
                shareOut(state);
            }
            return changed;
        }

        private void countAll(Marks marks) {
            for (int i = 0; i < numbers.length; i++) {
                numbers[i] = 0;
            }
            for (int state = 0; state < n; state++) {
                totals[state] = 0;
            }
            for (int thing = 0; thing < THINGS; thing++) {
                for (int year = 0; year + 1 < YEARS; year++) {
                    int from = marks.stateOf(thing, year);
                    int to = marks.stateOf(thing, year + 1);
                    if (from != BAD && to != BAD) {
                        numbers[from * MOST_STATES + to]++;
                        totals[from]++;
                    }
                }
            }
        }

        private void groupAll() {
            int group = 0;
            int inGroup = 0;
            boolean open = false;
            for (int state = 0; state < n; state++) {
                groups[state] = group;
                inGroup += totals[state];
                open = inGroup < leastMoves;
                if (!open) {
                    group++;
                    inGroup = 0;
                }
            }
            if (open && group > 0) {
                joinToGroupBefore(group);
            }
        }

        private void joinToGroupBefore(int group) {
            for (int state = 0; state < n; state++) {
                if (groups[state] == group) {
                    groups[state] = group - 1;
                }
            }
        }

        private void shareOut(int from) {
            int bottom = 0;
            for (int to = 0; to < n; to++) {
                bottom += movesInGroup(from, to - from);
            }
            for (int to = 0; to < n; to++) {
                int stays = to == from ? 1 : 0;
                setTop(from * MOST_STATES + to, bottom == 0 ? stays : movesInGroup(from, to - from));
            }
            bottoms[from] = Math.max(1, bottom);
        }

        private void setTop(int place, int top) {
            if (tops[place] != top) {
                tops[place] = top;
                changed = true;
            }
        }

        private int movesInGroup(int member, int step) {
            int found = 0;
            for (int state = 0; state < n; state++) {
                int to = state + step;
                if (groups[state] == groups[member] && to >= 0 && to < n) {
                    found += numbers[state * MOST_STATES + to];
                }
            }
            return found;
        }

        /** The least state up to which the shares, times 2^31, are above a draw. */
        int goal(int from, long draw) {
            long together = 0;
            for (int to = 0; to < n; to++) {
                together += top(from, to);
                if (together << 31 > draw * bottom(from)) {
                    return to;
                }
            }
            return n - 1;
        }
    }

    /** Works, or events, as they were told year by year. */
    private static final class Transfers {
        private static final int MOST_A_YEAR = 12;

        private final int[] told;
        private final int[] froms;
        private final int[] tos;
        private final int[] aboves;
        private final int[] belows;

        Transfers() {
            told = new int[YEARS];
            froms = new int[YEARS * MOST_A_YEAR];
            tos = new int[YEARS * MOST_A_YEAR];
            aboves = new int[YEARS * MOST_A_YEAR];
            belows = new int[YEARS * MOST_A_YEAR];
        }

        boolean add(int year, int from, int to, int above, int below) {
            if (told[year] >= MOST_A_YEAR) {
                return false;
            }
            int place = year * MOST_A_YEAR + told[year];
            froms[place] = from;
            tos[place] = to;
            aboves[place] = (int) smallPart(above, below, 0);
            belows[place] = (int) smallPart(above, below, 1);
            told[year]++;
            return true;
        }

        void applyTo(Row row, int year) {
            for (int i = 0; i < told[year]; i++) {
                int place = year * MOST_A_YEAR + i;
                row.transfer(froms[place], tos[place], aboves[place], belows[place]);
            }
        }
    }

    /** Shares of states foretold year by year; what stands is kept until it is forgotten. */
    private static final class Forecast {
        private static final int MOST_BITS = 600;
        private static final int BITS_A_STEP = 20;
        // All lower parts that can be told make up less than 950 digits together.
        private static final int ROOM = 112;
        private static final int ROOM_OF_KEPT = 21;

        private final int n;
        private final Moves moves;
        private final Transfers worksTold;
        private final Transfers eventsTold;
        private final int[] firstAboves;
        private final int[] firstBelows;
        private final Row[] rows;
        private final Fraction[] kept;
        private final Big[] moved;
        private final Fraction scratch;
        private final Big tooLong;
        private final int[] worths;
        private final Fraction worthSum;
        private boolean firstTold;
        private int known;
        private int cut;
        private int worthYear;
        private int worthSign;

        Forecast(int states, Moves moves, Transfers worksTold, Transfers eventsTold) {
            n = states;
            this.moves = moves;
            this.worksTold = worksTold;
            this.eventsTold = eventsTold;
            firstAboves = new int[MOST_STATES];
            firstBelows = new int[MOST_STATES];
            firstAboves[0] = 1;
            rows = new Row[YEARS];
            for (int year = 0; year < YEARS; year++) {
                rows[year] = new Row(states, ROOM);
            }
            kept = new Fraction[YEARS * MOST_STATES];
            for (int i = 0; i < kept.length; i++) {
                kept[i] = new Fraction(ROOM_OF_KEPT);
            }
            moved = new Big[MOST_STATES];
            for (int state = 0; state < MOST_STATES; state++) {
                firstBelows[state] = 1;
                moved[state] = new Big(ROOM);
            }
            scratch = new Fraction(ROOM);
            worths = new int[MOST_STATES];
            worthSum = new Fraction(ROOM);
            tooLong = new Big(ROOM_OF_KEPT);
            tooLong.set(1);
            for (int bits = 0; bits < MOST_BITS; bits += BITS_A_STEP) {
                tooLong.multiply(1 << BITS_A_STEP);
            }
            cut = YEARS;
            worthYear = BAD;
        }

        void begin(int state, int above, int below) {
            if (!firstTold) {
                firstTold = true;
                firstAboves[0] = 0;
            }
            firstAboves[state] = above;
            firstBelows[state] = below;
            forget(0);
        }

        /** What was foretold for a year and all behind it holds no more. */
        void forget(int year) {
            known = Math.min(known, year);
            if (year <= cut) {
                cut = YEARS;
            }
            worthYear = BAD;
        }

        /** Foretells up to a year; false: it is too long. */
        boolean stands(int year) {
            for (int y = known; y <= year && y < cut; y++) {
                foretell(y);
            }
            return year < known;
        }

        private void foretell(int year) {
            Row row = rows[year];
            if (year == 0) {
                row.begin(firstAboves, firstBelows);
            } else {
                row.copy(rows[year - 1]);
                worksTold.applyTo(row, year - 1);
                row.move(moves, moved);
                eventsTold.applyTo(row, year - 1);
            }
            row.shorten();
            if (keep(year)) {
                known = year + 1;
            } else {
                cut = year;
            }
        }

        private boolean keep(int year) {
            for (int state = 0; state < n; state++) {
                scratch.setLowest(rows[year].has(state), rows[year]);
                if (!scratch.isBelow(tooLong)) {
                    return false;
                }
                kept[year * MOST_STATES + state].copy(scratch);
            }
            return true;
        }

        long stateDigits(int state, int year, int part) {
            return kept[year * MOST_STATES + state].digits(part);
        }

        boolean isOneTogether(int year) {
            scratch.setTail(rows[year], 0);
            return scratch.compareParts() == 0;
        }

        /** Whether a state and all behind it have above by below together, or more. */
        boolean reaches(int year, int state, int above, int below) {
            scratch.setTail(rows[year], state);
            scratch.multiplyParts(below, above);
            return scratch.compareParts() >= 0;
        }

        void setWorth(int state, int worth) {
            worths[state] = worth;
            worthYear = BAD;
        }

        long worthDigits(int year, int part) {
            if (worthYear != year) {
                worthSign = scratch.setDifference(rows[year], worths);
                worthSum.setLowest(scratch.upper(), rows[year]);
                worthYear = year;
            }
            return part == -1 ? worthSign : worthSum.digits(part);
        }
    }

    /** What all states have in one year: whole numbers over one lower part whose primes are known. */
    private static final class Row {
        private final Big[] parts;
        private final Big whole;
        private final int[] powers;

        Row(int states, int room) {
            parts = new Big[states];
            for (int state = 0; state < states; state++) {
                parts[state] = new Big(room);
            }
            whole = new Big(room);
            powers = new int[PRIMES.length];
        }

        int states() {
            return parts.length;
        }

        Big has(int state) {
            return parts[state];
        }

        /** The lower part; it is right once the row has been shortened. */
        Big whole() {
            return whole;
        }

        int power(int prime) {
            return powers[prime];
        }

        void copy(Row other) {
            for (int state = 0; state < parts.length; state++) {
                parts[state].copy(other.parts[state]);
            }
            System.arraycopy(other.powers, 0, powers, 0, powers.length);
        }

        void begin(int[] aboves, int[] belows) {
            // Six numbers up to 1,000: a long holds their common multiple.
            long common = 1;
            for (int state = 0; state < parts.length; state++) {
                common = commonMultiple(common, belows[state]);
            }
            for (int state = 0; state < parts.length; state++) {
                parts[state].set(common / Math.max(1, belows[state]) * aboves[state]);
            }
            for (int k = 0; k < powers.length; k++) {
                powers[k] = 0;
            }
            growWhole(common);
        }

        private static long commonMultiple(long a, int b) {
            return a / Math.max(1, commonDivisor(a, b)) * b;
        }

        private void growWhole(long factor) {
            long rest = factor;
            for (int k = 0; k < powers.length && rest > 1; k++) {
                int prime = Math.max(2, PRIMES[k]);
                // A long has no more than 63 primes.
                for (int i = 0; i < 63 && rest % prime == 0; i++) {
                    rest /= prime;
                    powers[k]++;
                }
            }
        }

        void transfer(int from, int to, int above, int below) {
            if (above == 0 || parts[from].isZero()) {
                return;
            }
            for (int state = 0; state < parts.length; state++) {
                if (state != from) {
                    parts[state].multiply(below);
                }
            }
            parts[to].addProduct(parts[from], above, 0);
            parts[from].multiply(below - above);
            growWhole(below);
        }

        void move(Moves moves, Big[] moved) {
            long common = 1;
            for (int state = 0; state < parts.length; state++) {
                moved[state].set(0);
                if (!parts[state].isZero()) {
                    common = commonMultiple(common, moves.bottom(state));
                }
            }
            for (int from = 0; from < parts.length; from++) {
                long factor = common / Math.max(1, moves.bottom(from));
                for (int to = 0; to < parts.length && !parts[from].isZero(); to++) {
                    moved[to].addLongProduct(parts[from], factor * moves.top(from, to));
                }
            }
            for (int state = 0; state < parts.length; state++) {
                parts[state].copy(moved[state]);
            }
            growWhole(common);
        }

        /** Takes out what all parts and the lower part have in common. */
        void shorten() {
            whole.set(1);
            for (int k = 0; k < powers.length; k++) {
                for (int left = powers[k]; left > 0 && allDivide(PRIMES[k]); left--) {
                    divideAll(PRIMES[k]);
                    powers[k]--;
                }
                for (int i = 0; i < powers[k]; i++) {
                    whole.multiply(PRIMES[k]);
                }
            }
        }

        private boolean allDivide(int prime) {
            for (int state = 0; state < parts.length; state++) {
                if (parts[state].remainder(prime) != 0) {
                    return false;
                }
            }
            return true;
        }

        private void divideAll(int prime) {
            for (int state = 0; state < parts.length; state++) {
                parts[state].divide(prime);
            }
        }
    }

    /** A fraction that is not below 0. */
    private static final class Fraction {
        private final Big upper;
        private final Big lower;

        Fraction(int room) {
            upper = new Big(room);
            lower = new Big(room);
        }

        Big upper() {
            return upper;
        }

        void copy(Fraction other) {
            upper.copy(other.upper);
            lower.copy(other.lower);
        }

        /** A number by the lower part of a row, in least terms. */
        void setLowest(Big above, Row row) {
            upper.copy(above);
            if (upper.isZero()) {
                lower.set(1);
                return;
            }
            lower.copy(row.whole());
            for (int k = 0; k < PRIMES.length; k++) {
                for (int left = row.power(k); left > 0 && upper.remainder(PRIMES[k]) == 0; left--) {
                    upper.divide(PRIMES[k]);
                    lower.divide(PRIMES[k]);
                }
            }
        }

        /** What a state of a row and all behind it have together, not in least terms. */
        void setTail(Row row, int state) {
            upper.set(0);
            for (int s = state; s < row.states(); s++) {
                upper.addProduct(row.has(s), 1, 0);
            }
            lower.copy(row.whole());
        }

        /** Upper becomes what a row is worth, without its sign and lower part; answers the sign. */
        int setDifference(Row row, int[] worths) {
            upper.set(0);
            lower.set(0);
            for (int state = 0; state < row.states(); state++) {
                Big side = worths[state] < 0 ? lower : upper;
                side.addProduct(row.has(state), Math.abs(worths[state]), 0);
            }
            int sign = compareParts();
            if (sign < 0) {
                lower.subtract(upper);
                upper.copy(lower);
            } else {
                upper.subtract(lower);
            }
            return sign;
        }

        void multiplyParts(int byUpper, int byLower) {
            upper.multiply(byUpper);
            lower.multiply(byLower);
        }

        int compareParts() {
            return upper.compareWith(lower);
        }

        boolean isBelow(Big bound) {
            return upper.compareWith(bound) < 0 && lower.compareWith(bound) < 0;
        }

        long digits(int part) {
            if (part < 0) {
                return 0;
            }
            return (part & 1) == 0 ? upper.eighteenDigits(part >> 1) : lower.eighteenDigits(part >> 1);
        }
    }

    /** A whole number that is not below 0, nine digits an element, so that digits lie ready. */
    private static final class Big {
        private static final int BASE = 1000000000;

        private final int[] nines;
        private int used;

        Big(int room) {
            nines = new int[Math.max(1, room)];
        }

        boolean isZero() {
            return used == 0;
        }

        void set(long value) {
            long rest = value;
            used = 0;
            while (rest > 0 && used < nines.length) {
                nines[used] = (int) (rest % BASE);
                rest /= BASE;
                used++;
            }
        }

        void copy(Big other) {
            used = Math.min(other.used, nines.length);
            System.arraycopy(other.nines, 0, nines, 0, used);
        }

        private int nine(int i) {
            return i >= 0 && i < used ? nines[i] : 0;
        }

        long eighteenDigits(int k) {
            // Long before 2 k could wrap, all digits are 0.
            return k < 0 || k >= nines.length ? 0 : nine(2 * k) + (long) BASE * nine(2 * k + 1);
        }

        /** By a factor of 0 .. BASE - 1. */
        void multiply(int factor) {
            if (factor == 0) {
                used = 0;
                return;
            }
            if (factor == 1) {
                return;
            }
            long carry = 0;
            for (int i = 0; i < used; i++) {
                long sum = (long) nines[i] * factor + carry;
                carry = sum / BASE;
                nines[i] = (int) (sum - carry * BASE);
            }
            if (carry > 0 && used < nines.length) {
                nines[used] = (int) carry;
                used++;
            }
        }

        /** Another number more, times a factor of 0 .. BASE - 1, moved up by some elements. */
        void addProduct(Big other, int factor, int up) {
            if (factor == 0 || other.used == 0 || up < 0) {
                return;
            }
            for (int i = used; i < up && i < nines.length; i++) {
                nines[i] = 0;
            }
            int end = other.used + up;
            long carry = 0;
            int place = up;
            while (place < nines.length && (place < end || carry > 0)) {
                long sum = carry + (place < used ? nines[place] : 0);
                if (place < end) {
                    sum += (long) other.nines[place - up] * factor;
                }
                carry = sum / BASE;
                nines[place] = (int) (sum - carry * BASE);
                place++;
            }
            used = Math.max(used, place);
        }

        void addLongProduct(Big other, long factor) {
            addProduct(other, (int) (factor % BASE), 0);
            addProduct(other, (int) (factor / BASE), 1);
        }

        /** One less, which is not greater. */
        void subtract(Big other) {
            int borrow = 0;
            for (int i = 0; i < used; i++) {
                int rest = nines[i] - other.nine(i) - borrow;
                borrow = rest < 0 ? 1 : 0;
                nines[i] = rest + borrow * BASE;
            }
            while (used > 0 && nines[used - 1] == 0) {
                used--;
            }
        }

        /** By a divisor of 1 .. BASE - 1, as the next one. */
        int remainder(int divisor) {
            long rest = 0;
            for (int i = used - 1; i >= 0 && divisor > 0; i--) {
                rest = (rest * BASE + nines[i]) % divisor;
            }
            return (int) rest;
        }

        void divide(int divisor) {
            long rest = 0;
            for (int i = used - 1; i >= 0 && divisor > 0; i--) {
                long value = rest * BASE + nines[i];
                nines[i] = (int) (value / divisor);
                rest = value % divisor;
            }
            // A divisor below BASE takes one element away at most.
            if (used > 0 && nines[used - 1] == 0) {
                used--;
            }
        }

        int compareWith(Big other) {
            if (used != other.used) {
                return used < other.used ? -1 : 1;
            }
            for (int i = used - 1; i >= 0; i--) {
                if (nines[i] != other.nine(i)) {
                    return nines[i] < other.nine(i) ? -1 : 1;
                }
            }
            return 0;
        }
    }
}
