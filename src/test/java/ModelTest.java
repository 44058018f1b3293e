import java.math.BigDecimal;
import java.math.RoundingMode;
import java.util.ArrayList;
import java.util.Comparator;
import java.util.List;
import java.util.Random;

/**
 * Many runs of calls on a JumpHill and on a model that is written from DOC.md in another way (lists, sorting,
 * fractions): every answer must be the same. The runs are the same each time, by fixed seeds.
 */
public final class ModelTest {
    private static final int NONE = JumpHill.NONE;
    private static final int RUNS = 300;
    private static final int CALLS = 512;

    public static void main(String[] args) {
        int wrong = 0;
        for (int run = 0; run < RUNS && wrong < 10; run++) {
            wrong += new ModelTest(run).play() ? 0 : 1;
        }
        System.out.println(wrong == 0 ? "ModelTest: all answers are as due" : "ModelTest: " + wrong + " runs wrong");
        if (wrong != 0) {
            System.exit(1);
        }
    }

    private final int run;
    private final Random random;
    private final JumpHill hill = new JumpHill();
    private final Model model = new Model();
    private final List<String> calls = new ArrayList<>();
    private final int people;
    private final int spread;
    private final boolean quiet;

    private ModelTest(int run) {
        this.run = run;
        random = new Random(run * 7919L + 1);
        people = 1 + random.nextInt(24);
        spread = 1 + random.nextInt(8);
        quiet = random.nextInt(3) == 0;
    }

    private boolean play() {
        for (int i = 0; i < people; i++) {
            if (!same("jumper", random.nextInt(6))) {
                return false;
            }
        }
        // A text of RULES takes up to four calls.
        while (calls.size() + 4 <= CALLS) {
            if (!call()) {
                return false;
            }
        }
        return true;
    }

    private boolean call() {
        int r = random.nextInt(100);
        int now = model.entries.size();
        if (r < 14) {
            return same("reading", j(), round(), wild() ? pick(-1, 601, 0, 600) : 240 - spread + random.nextInt(2 * spread + 1),
                wild() ? pick(0, 51, 1, 50) : 20 + random.nextInt(5) - 2, random.nextInt(2));
        }
        if (r < 20) {
            return same("wind", jr(), read(), read(), read(), read(), read());
        }
        if (r < 28) {
            return same("style", jr(), mark(), mark(), mark(), mark(), mark());
        }
        if (r < 33) {
            return same("strike", j(), round(), random.nextInt(3) == 0 ? 0 : 1);
        }
        if (r < 35) {
            return same("sensor", random.nextInt(7) - 1, random.nextInt(12) - 1);
        }
        if (r < 37) {
            return same("base", wild() ? pick(0, 51, 1, 50) : 18 + random.nextInt(5));
        }
        if (r < 40) {
            return text();
        }
        if (r < 41) {
            return same("jumper", random.nextInt(8) - 1);
        }
        if (r < 42) {
            return quiet && random.nextInt(8) != 0 || same("close");
        }
        return question(r, now);
    }

    private boolean question(int r, int now) {
        int e = wild() ? pick(-1, now + 1, now, 0) : random.nextInt(3) == 0 ? random.nextInt(now + 1) : now;
        if (r < 60) {
            return same("points", e, j(), round(), random.nextInt(10) - 1);
        }
        if (r < 72) {
            return same("told", e, j(), random.nextInt(7) - 1);
        }
        if (r < 78) {
            return same("list", e, random.nextInt(people + 2) - 1);
        }
        if (r < 84) {
            return same("start", e, round(), random.nextInt(people + 2) - 1);
        }
        if (r < 88) {
            return same("team", e, random.nextInt(8) - 1);
        }
        if (r < 91) {
            return same("record", random.nextInt(4) - 1);
        }
        if (r < 96) {
            return same("differ", e, random.nextInt(now + 1), random.nextInt(random.nextBoolean() ? 2 : people + 1));
        }
        return same(r < 98 ? "count" : "rule", random.nextInt(r < 98 ? 17 : 9) - 1);
    }

    /** RULES told as a text, sometimes a broken one. */
    private boolean text() {
        StringBuilder b = new StringBuilder();
        int clauses = 1 + random.nextInt(5);
        int[] least = {20, 0, 0, 0, 0, 1, 0};
        int[] greatest = {600, 99, 999, 999, 200, 24, 1};
        for (int i = 0; i < clauses; i++) {
            int letter = random.nextInt(7);
            int value = least[letter] + random.nextInt(greatest[letter] - least[letter] + 1);
            if (letter == 0 && !wild()) {
                value = 230 + random.nextInt(20);
            }
            b.append(i == 0 ? "" : ";").append("kmwghct".charAt(letter)).append(value);
        }
        if (random.nextInt(5) == 0) {
            int at = random.nextInt(b.length());
            b.setCharAt(at, "kmx; 0199".charAt(random.nextInt(9)));
        }
        if (random.nextInt(8) == 0) {
            b.insert(random.nextInt(b.length() + 1), "kx;0199".charAt(random.nextInt(7)));
        }
        int n = Math.min(b.length(), 60);
        while (b.length() < 60) {
            b.append((char) random.nextInt(256));
        }
        for (int from = 0; from < n; from += 20) {
            int[] w = new int[5];
            for (int i = 0; i < 20; i++) {
                w[i / 4] = w[i / 4] << 8 | b.charAt(from + i);
            }
            if (!same("feed", w)) {
                return false;
            }
        }
        return same("rules", wild() ? pick(-1, 61, 0, 20) : n);
    }

    private boolean wild() {
        return random.nextInt(25) == 0;
    }

    private int pick(int a, int b, int c, int d) {
        int r = random.nextInt(4);
        return r == 0 ? a : r == 1 ? b : r == 2 ? c : d;
    }

    private int j() {
        return wild() ? pick(-1, people, 24, Integer.MIN_VALUE) : random.nextInt(people);
    }

    private int round() {
        return wild() ? pick(-1, 2, 0, 1) : random.nextInt(3) == 0 ? 1 : 0;
    }

    private int jr() {
        return wild() ? pick(-1, 64, 31, 32 + people) : random.nextInt(people) + 32 * (random.nextInt(3) == 0 ? 1 : 0);
    }

    private int read() {
        return wild() ? pick(1000, -1000, 999, -999) : random.nextInt(5) == 0 ? NONE : random.nextInt(41) - 20;
    }

    private int mark() {
        return wild() ? pick(-1, 41, 19, 40) : random.nextInt(10) == 0 ? random.nextInt(41) : 20 + random.nextInt(4);
    }

    private boolean same(String name, int... a) {
        calls.add(name + java.util.Arrays.toString(a));
        int got = ask(name, a);
        int want = model.ask(name, a);
        if (got != want) {
            System.out.println("run " + run + ": call " + calls.size() + " " + calls.get(calls.size() - 1)
                    + " answered " + got + ", due is " + want);
        }
        return got == want;
    }

    private int ask(String name, int[] a) {
        switch (name) {
            case "feed": return hill.feed(a[0], a[1], a[2], a[3], a[4]);
            case "rules": return hill.rules(a[0]);
            case "rule": return hill.rule(a[0]);
            case "jumper": return hill.jumper(a[0]);
            case "sensor": return hill.sensor(a[0], a[1]) ? 1 : 0;
            case "base": return hill.base(a[0]) ? 1 : 0;
            case "reading": return hill.reading(a[0], a[1], a[2], a[3], a[4] == 1);
            case "wind": return hill.wind(a[0], a[1], a[2], a[3], a[4], a[5]);
            case "style": return hill.style(a[0], a[1], a[2], a[3], a[4], a[5]);
            case "strike": return hill.strike(a[0], a[1], a[2] == 1);
            case "points": return hill.points(a[0], a[1], a[2], a[3]);
            case "told": return hill.told(a[0], a[1], a[2]);
            case "list": return hill.list(a[0], a[1]);
            case "start": return hill.start(a[0], a[1], a[2]);
            case "team": return hill.team(a[0], a[1]);
            case "record": return hill.record(a[0]);
            case "differ": return hill.differ(a[0], a[1], a[2]);
            case "close": return hill.close();
            default: return hill.count(a[0]);
        }
    }

    private static final class Entry {
        final int number;
        final char sort;
        final int j;
        final int round;
        final int[] v;

        Entry(int number, char sort, int j, int round, int... v) {
            this.number = number;
            this.sort = sort;
            this.j = j;
            this.round = round;
            this.v = v;
        }
    }

    private static final class Model {
        static final String LETTERS = "kmwghct";
        final List<Integer> tape = new ArrayList<>();
        int[] rules = {240, 18, 100, 70, 95, 12, 1};
        final List<Integer> teams = new ArrayList<>();
        final int[] season = new int[24];
        final int[] weights = {1, 1, 1, 1, 1};
        int base = 20;
        List<Entry> entries = new ArrayList<>();
        int closed = 0;
        int[] hillRecord = null;

        int ask(String name, int[] a) {
            switch (name) {
                case "feed": return feed(a);
                case "rules": return rules(a[0]);
                case "rule": return a[0] < 0 || a[0] > 6 ? NONE : rules[a[0]];
                case "jumper": return jumper(a[0]);
                case "sensor": return sensor(a[0], a[1]);
                case "base": return base(a[0]);
                case "reading": return reading(a);
                case "wind": return row('w', a);
                case "style": return row('s', a);
                case "strike": return strike(a[0], a[1], a[2]);
                case "points": return points(a[0], a[1], a[2], a[3]);
                case "told": return told(a[0], a[1], a[2]);
                case "list": return knows(a[0]) ? ith(list(a[0]), a[1]) : NONE;
                case "start": return start(a[0], a[1], a[2]);
                case "team": return team(a[0], a[1]);
                case "record": return record(a[0]);
                case "differ": return differ(a[0], a[1], a[2]);
                case "close": return close();
                default: return count(a[0]);
            }
        }

        int ith(List<Integer> row, int i) {
            return i < 0 || i >= row.size() ? NONE : row.get(i);
        }

        boolean knows(int e) {
            return e >= 0 && e <= entries.size();
        }

        boolean isThere(int j, int round) {
            return j >= 0 && j < teams.size() && (round == 0 || round == 1);
        }

        int feed(int[] a) {
            if (tape.size() + 20 > 60) {
                return NONE;
            }
            for (int word : a) {
                byte[] four = java.nio.ByteBuffer.allocate(4).putInt(word).array();
                for (byte b : four) {
                    tape.add(b & 0xff);
                }
            }
            return tape.size();
        }

        int rules(int n) {
            if (n < 0 || n > tape.size()) {
                return NONE;
            }
            StringBuilder b = new StringBuilder();
            for (int i = 0; i < n; i++) {
                b.append((char) (int) tape.get(i));
            }
            tape.clear();
            return parse(b.toString());
        }

        int parse(String text) {
            int[] fresh = {240, 18, 100, 70, 95, 12, 1};
            int[] least = {20, 0, 0, 0, 0, 1, 0};
            int[] greatest = {600, 99, 999, 999, 200, 24, 1};
            int from = 0;
            while (true) {
                int letter = from < text.length() ? LETTERS.indexOf(text.charAt(from)) : -1;
                if (letter < 0) {
                    return 100 + from;
                }
                int to = from + 1;
                while (to < text.length() && text.charAt(to) >= '0' && text.charAt(to) <= '9') {
                    to++;
                }
                if (to == from + 1) {
                    return 200 + to;
                }
                if (to > from + 5) {
                    return 300 + from + 5;
                }
                int value = Integer.parseInt(text.substring(from + 1, to));
                if (value < least[letter] || value > greatest[letter]) {
                    return 400 + from + 1;
                }
                fresh[letter] = value;
                if (to == text.length()) {
                    rules = fresh;
                    return 0;
                }
                if (text.charAt(to) != ';') {
                    return 500 + to;
                }
                from = to + 1;
            }
        }

        int jumper(int team) {
            if (team < 0 || team > 5 || teams.size() == 24) {
                return NONE;
            }
            teams.add(team);
            return teams.size() - 1;
        }

        int sensor(int s, int weight) {
            if (s < 0 || s > 4 || weight < 0 || weight > 9) {
                return 0;
            }
            weights[s] = weight;
            return 1;
        }

        int base(int gate) {
            if (gate < 1 || gate > 50) {
                return 0;
            }
            base = gate;
            return 1;
        }

        int tell(char sort, int j, int round, int... v) {
            if (!isThere(j, round) || entries.size() >= 200) {
                return NONE;
            }
            entries.add(new Entry(entries.size(), sort, j, round, v));
            return entries.size() - 1;
        }

        int reading(int[] a) {
            boolean good = a[2] >= 0 && a[2] <= 600 && a[3] >= 1 && a[3] <= 50;
            return good ? tell('r', a[0], a[1], a[2], a[3], a[4]) : NONE;
        }

        int row(char sort, int[] a) {
            for (int i = 1; i < 6; i++) {
                boolean good = sort == 's' ? a[i] >= 0 && a[i] <= 40 : a[i] == NONE || Math.abs(a[i]) <= 999;
                if (!good) {
                    return NONE;
                }
            }
            int round = a[0] >= 32 ? 1 : 0;
            return tell(sort, round == 1 ? a[0] - 32 : a[0], round, a[1], a[2], a[3], a[4], a[5]);
        }

        int strike(int j, int round, int is) {
            if (!isThere(j, round) || isStruck(entries.size(), j, round) == (is == 1)) {
                return NONE;
            }
            return tell('x', j, round, is);
        }

        Entry last(int e, char sort, int j, int round) {
            for (int n = e - 1; n >= 0; n--) {
                Entry x = entries.get(n);
                if (x.sort == sort && x.j == j && x.round == round) {
                    return x;
                }
            }
            return null;
        }

        boolean isStruck(int e, int j, int round) {
            Entry x = last(e, 'x', j, round);
            return x != null && x.v[0] == 1;
        }

        int nearest(long a, long b) {
            return new BigDecimal(a).divide(new BigDecimal(b), 0, RoundingMode.HALF_UP).intValue();
        }

        int mean(int e, int j, int round) {
            Entry x = last(e, 'w', j, round);
            long sum = 0;
            long all = 0;
            for (int s = 0; x != null && s < 5; s++) {
                if (x.v[s] != NONE) {
                    sum += (long) weights[s] * x.v[s];
                    all += weights[s];
                }
            }
            return all == 0 ? 0 : nearest(sum, all);
        }

        /** LENGTH, STYLE, GATE, WIND; null if the JUMP has no POINTS. */
        int[] parts(int e, int j, int round) {
            Entry r = last(e, 'r', j, round);
            if (r == null || isStruck(e, j, round)) {
                return null;
            }
            int[] p = new int[4];
            p[0] = 1200 + rules[1] * (r.v[0] - rules[0]);
            Entry s = last(e, 's', j, round);
            if (s != null) {
                int[] marks = s.v.clone();
                java.util.Arrays.sort(marks);
                p[1] = 10 * (marks[1] + marks[2] + marks[3]);
            }
            p[2] = 2 * rules[3] * (base - r.v[1]);
            if (r.v[2] == 1 && r.v[0] * 100 < rules[4] * rules[0]) {
                p[2] = 0;
            }
            p[3] = -2 * nearest((long) mean(e, j, round) * rules[2], 100);
            return p;
        }

        int all(int[] p) {
            return Math.max(0, p[0] + p[1] + p[2] + p[3]);
        }

        int points(int e, int j, int round, int what) {
            if (!knows(e) || !isThere(j, round) || what < 0 || what > 7) {
                return NONE;
            }
            if (what == 7) {
                return mean(e, j, round);
            }
            int[] p = parts(e, j, round);
            if (p == null) {
                return NONE;
            }
            if (what == 0) {
                return all(p);
            }
            if (what <= 4) {
                return p[what - 1];
            }
            int[] without = p.clone();
            without[what == 5 ? 2 : 3] = 0;
            return all(p) - all(without);
        }

        List<Integer> firstRound(int e) {
            List<Integer> row = new ArrayList<>();
            for (int j = 0; j < teams.size(); j++) {
                if (parts(e, j, 0) != null) {
                    row.add(j);
                }
            }
            row.sort(Comparator.comparingInt((Integer j) -> -all(parts(e, j, 0))).thenComparing(j -> j));
            return row;
        }

        List<Integer> through(int e) {
            List<Integer> row = firstRound(e);
            int n = Math.min(rules[5], row.size());
            while (rules[6] == 1 && n > 0 && n < row.size()
                    && all(parts(e, row.get(n), 0)) == all(parts(e, row.get(n - 1), 0))) {
                n++;
            }
            return new ArrayList<>(row.subList(0, n));
        }

        int total(int e, int j, List<Integer> through) {
            int[] second = through.contains(j) ? parts(e, j, 1) : null;
            return all(parts(e, j, 0)) + (second == null ? 0 : all(second));
        }

        List<Integer> list(int e) {
            List<Integer> through = through(e);
            List<Integer> rest = firstRound(e);
            rest.removeAll(through);
            Comparator<Integer> order =
                Comparator.comparingInt((Integer j) -> -total(e, j, through)).thenComparing(j -> j);
            List<Integer> row = new ArrayList<>(through);
            row.sort(order);
            rest.sort(order);
            row.addAll(rest);
            return row;
        }

        int place(int e, int j) {
            List<Integer> row = list(e);
            List<Integer> through = through(e);
            int at = row.indexOf(j);
            if (at < 0) {
                return NONE;
            }
            while (at > 0 && through.contains(row.get(at - 1)) == through.contains(j)
                    && total(e, row.get(at - 1), through) == total(e, j, through)) {
                at--;
            }
            return at + 1;
        }

        int told(int e, int j, int what) {
            if (!isThere(j, 0) || what < 0 || what > 4) {
                return NONE;
            }
            if (what >= 3) {
                return what == 3 ? teams.get(j) : season[j];
            }
            if (!knows(e)) {
                return NONE;
            }
            List<Integer> through = through(e);
            if (what == 0) {
                return through.contains(j) ? 1 : 0;
            }
            if (parts(e, j, 0) == null) {
                return NONE;
            }
            return what == 1 ? total(e, j, through) : place(e, j);
        }

        int start(int e, int round, int i) {
            if (!knows(e) || round < 0 || round > 1) {
                return NONE;
            }
            List<Integer> row = new ArrayList<>();
            if (round == 1) {
                row = through(e);
                java.util.Collections.reverse(row);
            } else {
                for (int j = 0; j < teams.size(); j++) {
                    row.add(j);
                }
            }
            return ith(row, i);
        }

        int team(int e, int t) {
            if (!knows(e)) {
                return NONE;
            }
            List<Integer> through = through(e);
            List<Integer> totals = new ArrayList<>();
            for (int j : firstRound(e)) {
                if (teams.get(j) == t) {
                    totals.add(total(e, j, through));
                }
            }
            totals.sort(Comparator.reverseOrder());
            int sum = 0;
            for (int i = 0; i < Math.min(4, totals.size()); i++) {
                sum += totals.get(i);
            }
            return totals.isEmpty() ? NONE : sum;
        }

        int[] recordNow() {
            int[] best = hillRecord;
            int e = entries.size();
            for (Entry x : entries) {
                Entry s = last(e, 's', x.j, x.round);
                boolean counts = x.sort == 'r' && last(e, 'r', x.j, x.round) == x && parts(e, x.j, x.round) != null
                        && s != null && java.util.Arrays.stream(s.v).min().getAsInt() >= 20;
                if (counts && (best == null || x.v[0] > best[0])) {
                    best = new int[] {x.v[0], x.j};
                }
            }
            return best;
        }

        int record(int what) {
            int[] best = recordNow();
            return best == null || what < 0 || what > 1 ? NONE : best[what];
        }

        int differ(int e, int f, int i) {
            if (!knows(e) || !knows(f)) {
                return NONE;
            }
            List<Integer> row = new ArrayList<>();
            for (int j = 0; j < teams.size(); j++) {
                if (place(e, j) != place(f, j)) {
                    row.add(j);
                }
            }
            return ith(row, i);
        }

        int close() {
            int[] seasonRow = {100, 80, 60, 50, 45, 40, 36, 32, 29, 26, 24, 22, 20, 18, 16, 15, 14, 13, 12, 11, 10, 9,
                8, 7};
            int e = entries.size();
            List<Integer> row = list(e);
            if (row.isEmpty()) {
                return NONE;
            }
            for (int j : row) {
                season[j] += seasonRow[place(e, j) - 1];
            }
            hillRecord = recordNow();
            entries = new ArrayList<>();
            closed++;
            return row.size();
        }

        int count(int what) {
            int e = entries.size();
            switch (what) {
                case 0: return teams.size();
                case 1: return e;
                case 2: return closed;
                case 3: return base;
                case 4: return list(e).size();
                case 5: return through(e).size();
                case 6: return tape.size();
                default: return what >= 10 && what <= 14 ? weights[what - 10] : NONE;
            }
        }
    }
}
