import java.math.BigInteger;
import java.util.ArrayList;
import java.util.Arrays;
import java.util.List;
import java.util.TreeMap;
import java.util.regex.Matcher;
import java.util.regex.Pattern;

/** The document written a second time, with the library and without any thrift; nothing is kept ready. */
final class Model {
    private static final int BAD = -1;

    record Ratio(BigInteger up, BigInteger low) {
        static Ratio of(BigInteger up, BigInteger low) {
            BigInteger g = up.gcd(low);
            return new Ratio(up.divide(g), low.divide(g));
        }

        static Ratio of(long up, long low) {
            return of(BigInteger.valueOf(up), BigInteger.valueOf(low));
        }

        Ratio plus(Ratio o) {
            return of(up.multiply(o.low).add(o.up.multiply(low)), low.multiply(o.low));
        }

        Ratio minus(Ratio o) {
            return plus(new Ratio(o.up.negate(), o.low));
        }

        Ratio times(Ratio o) {
            return of(up.multiply(o.up), low.multiply(o.low));
        }

        int compare(Ratio o) {
            return up.multiply(o.low).compareTo(o.up.multiply(low));
        }

        boolean isLong() {
            return up.bitLength() > 600 || low.bitLength() > 600;
        }

        long part(int part) {
            if (part < 0) {
                return 0;
            }
            String digits = (part % 2 == 0 ? up : low).abs().toString();
            int end = digits.length() - part / 2 * 18;
            return end <= 0 || part > 10000 ? 0 : Long.parseLong(digits.substring(Math.max(0, end - 18), end));
        }
    }

    record Step(int from, int to, Ratio part) {
    }

    record Rule(String amount, int counted, char sign, int bound, String value) {
    }

    private final int n;
    private final TreeMap<Integer, Integer> marks = new TreeMap<>();
    private final int[] kinds = new int[10];
    private String text = "";
    private List<Rule> rules = List.of(new Rule(null, 0, ' ', 0, "max"));
    private int leastMoves = 0;
    private final Ratio[] first = new Ratio[6];
    private final List<List<Step>> worksTold = new ArrayList<>();
    private final List<List<Step>> eventsTold = new ArrayList<>();
    private final long[] worths = new long[6];

    Model(int states) {
        n = states < 2 ? 2 : states > 6 ? 6 : states;
        for (int y = 0; y < 11; y++) {
            worksTold.add(new ArrayList<>());
            eventsTold.add(new ArrayList<>());
        }
    }

    private static boolean in(long x, long low, long high) {
        return x >= low && x <= high;
    }

    private void need(int state) {
        if (!in(state, 0, n - 1)) {
            throw new ArrayIndexOutOfBoundsException();
        }
    }

    boolean mark(int thing, int year, int person, int state) {
        if (!in(thing, 0, 9) || !in(year, 0, 11) || !in(person, 0, 3)) {
            return false;
        }
        need(state);
        marks.put(thing * 100 + year * 4 + person, state);
        return true;
    }

    boolean unit(int u) {
        if (!in(u, 32, 126) || text.length() >= 120) {
            return false;
        }
        text += (char) u;
        return true;
    }

    /** A word that is wrong, by number. */
    private static final class Wrong extends Exception {
        private static final long serialVersionUID = 1;
        private final int word;

        Wrong(int word) {
            this.word = word;
        }
    }

    int grade() {
        List<String> words = new ArrayList<>();
        Matcher m = Pattern.compile("[A-Za-z]+|[0-9]+|[^ ]").matcher(text);
        while (m.find()) {
            words.add(m.group());
        }
        text = "";
        List<Rule> found = new ArrayList<>();
        try {
            int[] place = {0};
            found.add(rule(words, place));
            while (place[0] < words.size()) {
                if (!words.get(place[0]).equals(";")) {
                    throw new Wrong(place[0]);
                }
                place[0]++;
                if (found.size() == 20) {
                    throw new Wrong(place[0]);
                }
                found.add(rule(words, place));
            }
        } catch (Wrong e) {
            return -1 - e.word;
        }
        rules = found;
        return rules.size();
    }

    private Rule rule(List<String> words, int[] place) throws Wrong {
        String w = word(words, place[0]);
        boolean compared = word(words, place[0] + 1).matches("[<=>]");
        if (!w.equals("n") && !w.equals("#") && !(w.matches("max|min") && compared)) {
            return new Rule(null, 0, ' ', 0, value(words, place));
        }
        place[0]++;
        int counted = w.equals("#") ? number(words, place) : 0;
        String sign = word(words, place[0]);
        if (!sign.matches("[<=>]")) {
            throw new Wrong(place[0]);
        }
        place[0]++;
        int bound = number(words, place);
        if (!word(words, place[0]).equals(":")) {
            throw new Wrong(place[0]);
        }
        place[0]++;
        return new Rule(w, counted, sign.charAt(0), bound, value(words, place));
    }

    private static String word(List<String> words, int i) {
        return i < words.size() ? words.get(i) : "";
    }

    private static int number(List<String> words, int[] place) throws Wrong {
        String w = word(words, place[0]);
        if (!w.matches("[0-9]{1,3}")) {
            throw new Wrong(place[0]);
        }
        place[0]++;
        return Integer.parseInt(w);
    }

    private String value(List<String> words, int[] place) throws Wrong {
        String w = word(words, place[0]);
        if (!w.matches("max|min|mid|[0-9]{1,3}") || Character.isDigit(w.charAt(0)) && Integer.parseInt(w) >= n) {
            throw new Wrong(place[0]);
        }
        place[0]++;
        return w;
    }

    int graded(int thing, int year) {
        if (!in(thing, 0, 9) || !in(year, 0, 11)) {
            return BAD;
        }
        int[] seen = marks.subMap(thing * 100 + year * 4, thing * 100 + year * 4 + 4).values().stream()
            .mapToInt(s -> s).sorted().toArray();
        if (seen.length == 0) {
            return BAD;
        }
        for (Rule r : rules) {
            if (r.amount == null || holds(r, seen)) {
                return switch (r.value) {
                    case "max" -> seen[seen.length - 1];
                    case "min" -> seen[0];
                    case "mid" -> seen[seen.length / 2];
                    default -> Integer.parseInt(r.value);
                };
            }
        }
        return seen[seen.length - 1];
    }

    private static boolean holds(Rule r, int[] seen) {
        long amount = switch (r.amount) {
            case "n" -> seen.length;
            case "max" -> seen[seen.length - 1];
            case "min" -> seen[0];
            default -> Arrays.stream(seen).filter(s -> s == r.counted).count();
        };
        return r.sign == '<' ? amount < r.bound : r.sign == '>' ? amount > r.bound : amount == r.bound;
    }

    private int[][] moves() {
        int[][] c = new int[n][n];
        for (int t = 0; t < 10; t++) {
            for (int y = 0; y < 11; y++) {
                if (graded(t, y) != BAD && graded(t, y + 1) != BAD) {
                    c[graded(t, y)][graded(t, y + 1)]++;
                }
            }
        }
        return c;
    }

    int count(int from, int to) {
        need(from);
        need(to);
        return moves()[from][to];
    }

    boolean least(int k) {
        if (!in(k, 0, 50)) {
            return false;
        }
        leastMoves = k;
        return true;
    }

    private List<List<Integer>> groups() {
        int[][] c = moves();
        List<List<Integer>> all = new ArrayList<>();
        List<Integer> open = new ArrayList<>();
        for (int s = 0; s < n; s++) {
            open.add(s);
            if (open.stream().mapToInt(a -> Arrays.stream(c[a]).sum()).sum() >= leastMoves) {
                all.add(open);
                open = new ArrayList<>();
            }
        }
        if (!open.isEmpty() && all.isEmpty()) {
            all.add(open);
        } else {
            all.get(all.size() - 1).addAll(open);
        }
        return all;
    }

    private List<Integer> groupOf(int state) {
        return groups().stream().filter(g -> g.contains(state)).findFirst().get();
    }

    private Ratio[][] shares() {
        Ratio[][] all = new Ratio[n][n];
        int[][] c = moves();
        for (int a = 0; a < n; a++) {
            int[] byStep = new int[2 * n + 1];
            for (int s : groupOf(a)) {
                for (int t = 0; t < n; t++) {
                    byStep[t - s + n] += c[s][t];
                }
            }
            int together = 0;
            for (int d = -n; d <= n; d++) {
                together += a + d >= 0 && a + d < n ? byStep[d + n] : 0;
            }
            for (int b = 0; b < n; b++) {
                all[a][b] = together == 0 ? Ratio.of(a == b ? 1 : 0, 1) : Ratio.of(byStep[b - a + n], together);
            }
        }
        return all;
    }

    long share(int from, int to, int part) {
        need(from);
        need(to);
        return shares()[from][to].part(part);
    }

    /** What all states have in every year up to one; null: it is too long. */
    private Ratio[] foretold(int year) {
        Ratio[] x = new Ratio[n];
        boolean told = Arrays.stream(first).anyMatch(r -> r != null);
        for (int s = 0; s < n; s++) {
            x[s] = first[s] != null ? first[s] : Ratio.of(s == 0 && !told ? 1 : 0, 1);
        }
        Ratio[][] shares = shares();
        for (int y = 0; y < year; y++) {
            worksTold.get(y).forEach(s -> carry(x, s));
            Ratio[] old = x.clone();
            for (int b = 0; b < n; b++) {
                x[b] = Ratio.of(0, 1);
                for (int a = 0; a < n; a++) {
                    x[b] = x[b].plus(old[a].times(shares[a][b]));
                }
            }
            eventsTold.get(y).forEach(s -> carry(x, s));
            if (Arrays.stream(x).anyMatch(Ratio::isLong)) {
                return null;
            }
        }
        return x;
    }

    private static void carry(Ratio[] x, Step s) {
        Ratio gone = x[s.from].times(s.part);
        x[s.from] = x[s.from].minus(gone);
        x[s.to] = x[s.to].plus(gone);
    }

    private Ratio[] yearOrNull(int year) {
        return in(year, 0, 11) ? foretold(year) : null;
    }

    long at(int state, int year, int part) {
        need(state);
        Ratio[] x = yearOrNull(year);
        return x == null ? BAD : x[state].part(part);
    }

    private static boolean fraction(long above, long below) {
        return in(above, 0, below) && in(below, 1, 1000);
    }

    boolean start(int state, long above, long below) {
        if (!in(state, 0, n - 1) || !fraction(above, below)) {
            return false;
        }
        first[state] = Ratio.of(above, below);
        return true;
    }

    boolean works(int year, int from, int to, long above, long below) {
        return tell(worksTold, year, from, to, above, below);
    }

    boolean event(int year, int from, int to, long above, long below) {
        return tell(eventsTold, year, from, to, above, below);
    }

    private boolean tell(List<List<Step>> told, int year, int from, int to, long above, long below) {
        if (!in(year, 0, 10) || !in(from, 0, n - 1) || !in(to, 0, n - 1) || from == to || !fraction(above, below)
            || told.get(year).size() == 12) {
            return false;
        }
        told.get(year).add(new Step(from, to, Ratio.of(above, below)));
        return true;
    }

    boolean sums(int year) {
        Ratio[] x = yearOrNull(year);
        return x != null && Arrays.stream(x).reduce(Ratio.of(0, 1), Ratio::plus).compare(Ratio.of(1, 1)) == 0;
    }

    int drawn(long seed, int thing, int year) {
        if (!in(thing, 0, 9) || !in(year, 0, 11)) {
            return BAD;
        }
        int state = graded(thing, 0);
        for (int t = 0; t < 10 && state == BAD; t++) {
            state = kinds[t] == kinds[thing] ? graded(t, 0) : BAD;
        }
        state = state == BAD ? 0 : state;
        Ratio[][] shares = shares();
        for (int y = 0; y < year; y++) {
            BigInteger v = BigInteger.valueOf(seed).add(BigInteger.valueOf(1000003L * thing + 7919L * y));
            for (int i = 0; i < 2; i++) {
                v = v.multiply(new BigInteger("6364136223846793005")).add(new BigInteger("1442695040888963407"));
            }
            v = v.mod(BigInteger.ONE.shiftLeft(64)).shiftRight(33);
            Ratio sum = Ratio.of(0, 1);
            int b = -1;
            do {
                b++;
                sum = sum.plus(shares[state][b]);
            } while (sum.times(Ratio.of(1L << 31, 1)).compare(Ratio.of(v, BigInteger.ONE)) <= 0);
            state = b;
        }
        return state;
    }

    long span(int from, int to, int end, int part) {
        if (!in(from, 0, n - 1) || !in(to, 0, n - 1) || !in(end, 0, 1) || !in(part, 0, 1)) {
            return BAD;
        }
        int[] c = moves()[from];
        return Ratio.of(c[to] + (end == 1 ? 2 : 0), Arrays.stream(c).sum() + 2).part(part);
    }

    boolean part2(int state, long worth) {
        if (!in(state, 0, n - 1) || !in(worth, -1000000, 1000000)) {
            return false;
        }
        worths[state] = worth;
        return true;
    }

    long worth(int year, int part) {
        Ratio[] x = yearOrNull(year);
        if (x == null) {
            return BAD;
        }
        Ratio sum = Ratio.of(0, 1);
        for (int s = 0; s < n; s++) {
            sum = sum.plus(x[s].times(Ratio.of(worths[s], 1)));
        }
        return part == -1 ? sum.up.signum() : sum.part(part);
    }

    long agree(int personA, int personB, int part) {
        if (!in(personA, 0, 3) || !in(personB, 0, 3) || personA == personB || !in(part, 0, 1)) {
            return BAD;
        }
        int m = 0;
        int a = 0;
        int[] ofA = new int[n];
        int[] ofB = new int[n];
        for (int t = 0; t < 10; t++) {
            for (int y = 0; y < 12; y++) {
                Integer sa = marks.get(t * 100 + y * 4 + personA);
                Integer sb = marks.get(t * 100 + y * 4 + personB);
                if (sa != null && sb != null) {
                    m++;
                    a += sa.equals(sb) ? 1 : 0;
                    ofA[sa]++;
                    ofB[sb]++;
                }
            }
        }
        int e = 0;
        for (int s = 0; s < n; s++) {
            e += ofA[s] * ofB[s];
        }
        if (m * m == e) {
            return 0;
        }
        Ratio r = Ratio.of(m * a - e, m * m - e);
        return (part == 0 ? r.up : r.low).longValueExact();
    }

    int joined(int a, int b) {
        return !in(a, 0, n - 1) || !in(b, 0, n - 1) ? BAD : groupOf(a).contains(b) ? 1 : 0;
    }

    int target(int state, long above, long below) {
        if (!in(state, 0, n - 1) || !fraction(above, below)) {
            return BAD;
        }
        for (int y = 0; y < 12; y++) {
            Ratio[] x = foretold(y);
            if (x == null) {
                return BAD;
            }
            Ratio sum = Arrays.stream(x).skip(state).reduce(Ratio.of(0, 1), Ratio::plus);
            if (sum.compare(Ratio.of(above, below)) >= 0) {
                return y;
            }
        }
        return BAD;
    }

    int missing(int k) {
        List<Integer> found = new ArrayList<>();
        for (int t = 0; t < 10; t++) {
            for (int y = 0; y < 12; y++) {
                boolean before = false;
                boolean behind = false;
                for (int o = 0; o < 12; o++) {
                    before |= o < y && graded(t, o) != BAD;
                    behind |= o > y && graded(t, o) != BAD;
                }
                if (graded(t, y) == BAD && before && behind) {
                    found.add(16 * t + y);
                }
            }
        }
        return in(k, 0, found.size() - 1) ? found.get(k) : BAD;
    }

    boolean kind(int thing, int k) {
        if (!in(thing, 0, 9) || !in(k, 0, 3)) {
            return false;
        }
        kinds[thing] = k;
        return true;
    }
}
