import java.util.Random;

/** Random runs of calls, each answered by the class and by the model; seeds are fixed, so runs are too. */
public final class ModelTest {
    private static final int CALLS = 512;
    private static final String[] WORDS = {
        "max", "min", "mid", "n", "#", "<", "=", ">", ":", ";", "0", "1", "2", "3", "5", "12", "007", "1000", " ", "mx", "?",
    };
    private static final String[] RULES = {
        "max", "min", "mid", "0", "1", "n<3:max", "n>1 : mid", "#1>0:1", "max=2:min", "min<1:1", "# 2 = 1 : 0", "n=2:min",
    };

    private final Random random;
    private final StateShares x;
    private final Model m;
    private final int states;
    private final int manner;
    private final String name;
    private int calls;

    private ModelTest(int seed) {
        random = new Random(seed);
        manner = seed % 6;
        int asked = random.nextInt(10) - 1;
        states = Math.max(2, Math.min(6, asked));
        x = new StateShares(asked);
        m = new Model(asked);
        name = "run " + seed + " (" + asked + " states): ";
    }

    public static void main(String[] args) {
        int runs = args.length > 0 ? Integer.parseInt(args[0]) : 250;
        for (int seed = 0; seed < runs; seed++) {
            new ModelTest(seed).run();
        }
        Check.finish();
    }

    private void run() {
        if (manner == 1 || manner == 3) {
            markMuch();
        } else if (manner == 5) {
            markAll();
        }
        // A step makes two calls at most.
        while (calls + 2 <= CALLS) {
            if (random.nextInt(12) == 0) {
                text(CALLS - calls - 1);
            } else {
                step();
            }
        }
    }

    private void markMuch() {
        int made = 60 + random.nextInt(180);
        for (int i = 0; i < made; i++) {
            tryMark(random.nextInt(10), random.nextInt(12), random.nextInt(4), random.nextInt(states));
        }
    }

    /** Every thing in every year, so that shares have great lower parts once groups are great. */
    private void markAll() {
        for (int thing = 0; thing < 10; thing++) {
            int state = random.nextInt(states);
            for (int year = 0; year < 12; year++) {
                state = random.nextInt(3) == 0 ? random.nextInt(states) : state;
                tryMark(thing, year, 0, state);
            }
        }
        due("least(50)", bit(m.least(50)), bit(x.least(50)));
    }

    /** Mostly in 0 .. bound - 1, sometimes beside it. */
    private int near(int bound) {
        int r = random.nextInt(40);
        if (r == 0) {
            return -1 - random.nextInt(2);
        }
        if (r == 1) {
            return bound + random.nextInt(2);
        }
        return r == 2 && random.nextInt(8) == 0 ? random.nextInt() : random.nextInt(bound);
    }

    private int part() {
        return random.nextInt(5) == 0 ? random.nextInt() : random.nextInt(28) - 3;
    }

    private long below() {
        return random.nextInt(30) == 0 ? random.nextInt(3) * 1000L - 999 : 1 + random.nextInt(manner == 2 ? 6 : 1000);
    }

    private long above(long below) {
        int r = random.nextInt(20);
        if (r == 0) {
            return below + random.nextInt(2);
        }
        return r == 1 ? -random.nextInt(2) : (long) (random.nextDouble() * below);
    }

    private void due(String call, long want, long got) {
        calls++;
        Check.due(name + call, want, got);
    }

    private static long bit(boolean b) {
        return b ? 1 : 0;
    }

    private void text(int room) {
        StringBuilder b = new StringBuilder();
        if (random.nextInt(3) == 0) {
            int words = random.nextInt(9);
            for (int i = 0; i < words; i++) {
                b.append(WORDS[random.nextInt(WORDS.length)]);
            }
        } else {
            int rules = random.nextInt(12) == 0 ? 25 : 1 + random.nextInt(4);
            for (int i = 0; i < rules; i++) {
                b.append(i == 0 ? "" : ";").append(rules == 25 ? "0" : RULES[random.nextInt(RULES.length)]);
            }
        }
        b.setLength(Math.min(room, b.length()));
        for (int i = 0; i < b.length(); i++) {
            due("unit(" + b.charAt(i) + ")", bit(m.unit(b.charAt(i))), bit(x.unit(b.charAt(i))));
        }
        due("grade() of \"" + b + "\"", m.grade(), x.grade());
    }

    private void tryMark(int thing, int year, int person, int state) {
        long want;
        long got;
        try {
            want = bit(m.mark(thing, year, person, state));
        } catch (ArrayIndexOutOfBoundsException e) {
            want = 2;
        }
        try {
            got = bit(x.mark(thing, year, person, state));
        } catch (ArrayIndexOutOfBoundsException e) {
            got = 2;
        }
        due("mark(" + thing + ", " + year + ", " + person + ", " + state + ")", want, got);
    }

    private void step() {
        int r = random.nextInt(26);
        if (r < 8) {
            change(r);
        } else if (r < 17) {
            ask(r);
        } else {
            askStates(r);
        }
    }

    private void change(int which) {
        int s = near(states);
        long below = below();
        long above = above(below);
        int year = near(11);
        // Manner 4: pairs of states that never mix, so that lower parts stay far apart.
        int to = manner == 4 ? s ^ 1 : near(states);
        if (manner == 4 && which < 2) {
            due("start", bit(m.start(s, above, below)), bit(x.start(s, above, below)));
            return;
        }
        switch (which) {
            case 0, 1 -> tryMark(near(10), near(12), near(4), s);
            case 2 -> {
                int least = random.nextInt(56) - 2;
                due("least(" + least + ")", bit(m.least(least)), bit(x.least(least)));
            }
            case 3 -> due("start", bit(m.start(s, above, below)), bit(x.start(s, above, below)));
            case 4, 5 -> due("works", bit(m.works(year, s, to, above, below)), bit(x.works(year, s, to, above, below)));
            case 6 -> due("event", bit(m.event(year, s, to, above, below)), bit(x.event(year, s, to, above, below)));
            default -> {
                long worth = random.nextInt(9) == 0 ? random.nextLong() : random.nextInt(2000003) - 1000001;
                due("part2", bit(m.part2(s, worth)), bit(x.part2(s, worth)));
                int thing = near(10);
                int kind = near(4);
                due("kind", bit(m.kind(thing, kind)), bit(x.kind(thing, kind)));
            }
        }
    }

    private void ask(int which) {
        int year = near(12);
        int a = near(states);
        int b = near(states);
        int part = part();
        long below = below();
        long above = above(below);
        switch (which) {
            case 8 -> {
                int thing = near(10);
                due("graded(" + thing + ", " + year + ")", m.graded(thing, year), x.graded(thing, year));
            }
            case 9 -> due("sums(" + year + ")", bit(m.sums(year)), bit(x.sums(year)));
            case 10 -> {
                long seed = random.nextLong();
                int thing = near(10);
                due("drawn(" + seed + ", " + thing + ", " + year + ")", m.drawn(seed, thing, year), x.drawn(seed, thing, year));
            }
            case 11 -> {
                int end = near(2);
                due("span(" + a + ", " + b + ", " + end + ")", m.span(a, b, end, part & 3), x.span(a, b, end, part & 3));
            }
            case 12 -> due("worth(" + year + ", " + part + ")", m.worth(year, part), x.worth(year, part));
            case 13 -> {
                int p = near(4);
                int q = near(4);
                int side = near(2);
                due("agree(" + p + ", " + q + ", " + side + ")", m.agree(p, q, side), x.agree(p, q, side));
            }
            case 14 -> due("joined(" + a + ", " + b + ")", m.joined(a, b), x.joined(a, b));
            case 15 -> due("target(" + a + ", " + above + ", " + below + ")", m.target(a, above, below), x.target(a, above, below));
            default -> {
                int k = near(30);
                due("missing(" + k + ")", m.missing(k), x.missing(k));
            }
        }
    }

    private void askStates(int which) {
        int a = near(states);
        int b = near(states);
        int year = near(12);
        int part = part();
        long want;
        long got;
        try {
            want = which < 19 ? m.count(a, b) : which < 21 ? m.share(a, b, part) : m.at(a, year, part);
        } catch (ArrayIndexOutOfBoundsException e) {
            want = Long.MIN_VALUE;
        }
        try {
            got = which < 19 ? x.count(a, b) : which < 21 ? x.share(a, b, part) : x.at(a, year, part);
        } catch (ArrayIndexOutOfBoundsException e) {
            got = Long.MIN_VALUE;
        }
        due((which < 19 ? "count" : which < 21 ? "share" : "at") + "(" + a + ", " + b + ", " + year + ", " + part + ")", want, got);
    }
}
