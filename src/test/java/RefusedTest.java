import java.util.ArrayList;
import java.util.Arrays;
import java.util.List;
import java.util.function.Consumer;
import java.util.function.ToIntFunction;

/**
 * "A call that is refused (NONE, false) changes nothing but the tape, where it is told." In hills of several states,
 * each call that must be refused is made beside a hill that is told the same without it: then both must answer all
 * questions, and all that is told behind them, alike. An object is asked 512 times at most, so that each pair of hills
 * is made anew for every few questions.
 */
public final class RefusedTest {
    private static final int NONE = JumpHill.NONE;
    private static final int LOWEST = Integer.MIN_VALUE;
    private static final int HIGHEST = Integer.MAX_VALUE;
    private static final int QUESTIONS_A_HILL = 200;
    private static final String SIXTY = "k300;m7;w20;g30;h0;c2;t0;k310;m8;w21;g31;h100;c3;t1;k0320;m9";

    private static int wrong = 0;

    /** What is told to a hill, and how much of it stands then. */
    private static final class State {
        final String name;
        final Consumer<JumpHill> story;
        final int jumpers;
        final int entries;
        final int taped;
        final boolean isAnyoneListed;

        State(String name, Consumer<JumpHill> story) {
            this.name = name;
            this.story = story;
            JumpHill x = made();
            jumpers = x.count(0);
            entries = x.count(1);
            taped = x.count(6);
            isAnyoneListed = x.count(4) > 0;
        }

        JumpHill made() {
            JumpHill x = new JumpHill();
            story.accept(x);
            return x;
        }
    }

    /** A call, and what a hill answers that refuses it. */
    private static final class Call {
        final String name;
        final ToIntFunction<JumpHill> on;
        final int refusal;

        Call(String name, ToIntFunction<JumpHill> on, int refusal) {
            this.name = name;
            this.on = on;
            this.refusal = refusal;
        }
    }

    public static void main(String[] args) {
        State[] states = {
            new State("a new hill", x -> { }),
            new State("JUMPERS alone", x -> people(x, 3)),
            new State("nobody on THE LIST", RefusedTest::nobodyListed),
            new State("a contest under way", RefusedTest::underWay),
            new State("one contest CLOSED", RefusedTest::oneClosed),
            new State("all full", RefusedTest::full)};
        for (State state : states) {
            for (List<Call> calls : refused(state)) {
                compare(state, calls);
            }
            compareQuestions(state);
            compareBesideAnother(state);
        }
        faults();
        System.out.println(wrong == 0 ? "RefusedTest: nothing has changed" : "RefusedTest: " + wrong + " wrong");
        if (wrong != 0) {
            System.exit(1);
        }
    }

    private static void fails(String what) {
        wrong++;
        if (wrong <= 50) {
            System.out.println(what);
        }
    }

    private static void people(JumpHill x, int jumpers) {
        for (int j = 0; j < jumpers; j++) {
            x.jumper(j * 5 % 6);
        }
    }

    private static void feedText(JumpHill x, String text) {
        for (int from = 0; from < text.length(); from += 20) {
            int[] words = new int[5];
            for (int i = 0; i < 20; i++) {
                words[i / 4] = words[i / 4] << 8 | text.charAt(from + i);
            }
            x.feed(words[0], words[1], words[2], words[3], words[4]);
        }
    }

    private static void nobodyListed(JumpHill x) {
        people(x, 3);
        x.reading(0, 0, 250, 20, false);
        x.strike(0, 0, true);
        x.reading(1, 1, 250, 20, false);
        x.style(33, 30, 30, 30, 30, 30);
        x.strike(2, 0, true);
        x.strike(2, 0, false);
        feedText(x, SIXTY.substring(0, 20));
    }

    private static void underWay(JumpHill x) {
        people(x, 5);
        feedText(x, "k230;m19;w90;g60;c3;t0;h94;m019;k230;c3;");
        x.rules(39);
        x.base(17);
        x.sensor(1, 3);
        x.sensor(4, 0);
        for (int j = 0; j < 4; j++) {
            x.reading(j, 0, 225 + 7 * j, 16 + j, j % 2 == 0);
            x.style(j, 20 + j, 25, 30, 35, 40);
            x.wind(j, 10 * j, NONE, 20, -30, 40);
        }
        x.strike(1, 0, true);
        x.reading(2, 1, 249, 15, true);
        x.style(34, 30, 31, 32, 33, 34);
        x.strike(3, 1, true);
        x.reading(3, 1, 250, 17, false);
        x.strike(3, 1, false);
        x.reading(0, 0, 226, 15, false);
        feedText(x, SIXTY.substring(0, 40));
    }

    private static void oneClosed(JumpHill x) {
        underWay(x);
        x.style(35, 30, 30, 30, 30, 30);
        x.close();
        x.reading(4, 0, 250, 20, false);
        x.style(4, 20, 20, 20, 20, 20);
        x.reading(0, 0, 245, 20, false);
    }

    private static void full(JumpHill x) {
        people(x, 24);
        for (int n = 0; n < 50; n++) {
            int j = n % 24;
            int round = n / 24 % 2;
            x.reading(j, round, 220 + n, 18 + n % 5, n % 3 == 0);
            x.style(j + 32 * round, 20 + n % 5, 30, 31, 32, 33);
            x.wind(j + 32 * round, n, -n, NONE, 2 * n, 7);
            x.strike(j, round, n % 7 != 0);
        }
        for (int n = x.count(1); n < 200; n++) {
            x.reading(n % 24, 0, n, 20, false);
        }
        feedText(x, SIXTY);
    }

    /** By method: all the calls that the state refuses. */
    private static List<List<Call>> refused(State s) {
        List<List<Call>> all = new ArrayList<>();
        all.add(refusedTapes(s));
        all.add(refusedSettings(s));
        all.add(refusedReadings(s));
        all.add(refusedRows(s, true));
        all.add(refusedRows(s, false));
        all.add(refusedStrikes(s));
        all.add(refusedKnowings(s));
        all.add(refusedPlaces(s));
        all.add(refusedNumbers(s));
        if (!s.isAnyoneListed) {
            all.add(List.of(new Call("close()", JumpHill::close, NONE)));
        }
        return all;
    }

    private static List<Call> refusedTapes(State s) {
        List<Call> calls = new ArrayList<>();
        for (int n : new int[] {-1, s.taped + 1, 61, LOWEST, HIGHEST, NONE}) {
            calls.add(new Call("rules(" + n + ")", x -> x.rules(n), NONE));
        }
        if (s.taped == 60) {
            calls.add(new Call("feed", x -> x.feed(0x6b323030, 0, 0, 0, 0), NONE));
        }
        return calls;
    }

    private static List<Call> refusedSettings(State s) {
        List<Call> calls = new ArrayList<>();
        for (int team : new int[] {-1, 6, LOWEST, HIGHEST, NONE}) {
            calls.add(new Call("jumper(" + team + ")", x -> x.jumper(team), NONE));
        }
        if (s.jumpers == 24) {
            calls.add(new Call("jumper(0)", x -> x.jumper(0), NONE));
            calls.add(new Call("jumper(5)", x -> x.jumper(5), NONE));
        }
        for (int n : new int[] {-1, 5, LOWEST, HIGHEST, NONE}) {
            calls.add(new Call("sensor(" + n + ", 7)", x -> x.sensor(n, 7) ? 1 : 0, 0));
        }
        for (int n : new int[] {-1, 10, LOWEST, HIGHEST, NONE}) {
            for (int sensor = 0; sensor < 5; sensor++) {
                int at = sensor;
                calls.add(new Call("sensor(" + at + ", " + n + ")", x -> x.sensor(at, n) ? 1 : 0, 0));
            }
        }
        for (int gate : new int[] {-1, 0, 51, LOWEST, HIGHEST, NONE}) {
            calls.add(new Call("base(" + gate + ")", x -> x.base(gate) ? 1 : 0, 0));
        }
        return calls;
    }

    private static List<Call> refusedReadings(State s) {
        List<Call> calls = new ArrayList<>();
        for (int j : new int[] {-1, s.jumpers, 24, 32, LOWEST, HIGHEST, NONE}) {
            calls.add(reading(j, 0, 250, 20));
            calls.add(reading(j, 1, 250, 20));
        }
        for (int j = 0; j < s.jumpers; j++) {
            for (int bad : new int[] {-1, 2, LOWEST, HIGHEST, NONE}) {
                calls.add(reading(j, bad, 250, 20));
            }
            for (int bad : new int[] {-1, 601, LOWEST, HIGHEST, NONE}) {
                calls.add(reading(j, 0, bad, 20));
            }
            for (int bad : new int[] {-1, 0, 51, LOWEST, HIGHEST, NONE}) {
                calls.add(reading(j, 1, 250, bad));
            }
            if (s.entries == 200) {
                calls.add(reading(j, 0, 250, 20));
                calls.add(reading(j, 1, 250, 20));
            }
        }
        return calls;
    }

    private static Call reading(int j, int round, int length, int gate) {
        return new Call("reading(" + j + ", " + round + ", " + length + ", " + gate + ")",
            x -> x.reading(j, round, length, gate, true), NONE);
    }

    private static List<Call> refusedRows(State s, boolean isWind) {
        List<Call> calls = new ArrayList<>();
        int[] good = {20, 21, 22, 23, 24};
        for (int j : new int[] {-1, s.jumpers, 24, 31, 32 + s.jumpers, 56, 64, 96, LOWEST, HIGHEST, NONE}) {
            calls.add(row(isWind, j, good));
        }
        int[] bad = isWind ? new int[] {-1000, 1000, -9999, -10001, LOWEST, HIGHEST}
            : new int[] {-1, 41, LOWEST, HIGHEST, NONE};
        for (int j = 0; j < s.jumpers && j < 3; j++) {
            for (int i = 0; i < 5; i++) {
                for (int value : bad) {
                    int[] values = good.clone();
                    values[i] = value;
                    calls.add(row(isWind, j + 32 * (i % 2), values));
                }
            }
        }
        for (int j = 0; j < s.jumpers && s.entries == 200; j++) {
            calls.add(row(isWind, j, good));
            calls.add(row(isWind, j + 32, good));
        }
        return calls;
    }

    private static Call row(boolean isWind, int j, int[] v) {
        String name = (isWind ? "wind(" : "style(") + j + ", " + Arrays.toString(v) + ")";
        return new Call(name, x -> isWind ? x.wind(j, v[0], v[1], v[2], v[3], v[4])
            : x.style(j, v[0], v[1], v[2], v[3], v[4]), NONE);
    }

    private static List<Call> refusedStrikes(State s) {
        List<Call> calls = new ArrayList<>();
        for (int j : new int[] {-1, s.jumpers, 24, 32, LOWEST, HIGHEST, NONE}) {
            calls.add(strike(j, 0, true));
            calls.add(strike(j, 1, false));
        }
        for (int round : new int[] {-1, 2, LOWEST, HIGHEST, NONE}) {
            calls.add(strike(0, round, true));
            calls.add(strike(0, round, false));
        }
        for (int j = 0; j < s.jumpers; j++) {
            for (int round = 0; round < 2; round++) {
                boolean isStruck = s.made().strike(j, round, false) != NONE;
                calls.add(strike(j, round, isStruck));
                if (s.entries == 200) {
                    calls.add(strike(j, round, !isStruck));
                }
            }
        }
        return calls;
    }

    private static Call strike(int j, int round, boolean is) {
        return new Call("strike(" + j + ", " + round + ", " + is + ")", x -> x.strike(j, round, is), NONE);
    }

    /** Questions by what is no KNOWING. */
    private static List<Call> refusedKnowings(State s) {
        List<Call> calls = new ArrayList<>();
        for (int e : new int[] {-1, s.entries + 1, 201, LOWEST, HIGHEST, NONE}) {
            for (int what = 0; what < 8; what += 7) {
                int w = what;
                calls.add(new Call("points(" + e + ", 0, 0, " + w + ")", x -> x.points(e, 0, 0, w), NONE));
            }
            for (int what = 0; what < 3; what++) {
                int w = what;
                calls.add(new Call("told(" + e + ", 0, " + w + ")", x -> x.told(e, 0, w), NONE));
            }
            calls.add(new Call("list(" + e + ", 0)", x -> x.list(e, 0), NONE));
            calls.add(new Call("start(" + e + ", 0, 0)", x -> x.start(e, 0, 0), NONE));
            calls.add(new Call("start(" + e + ", 1, 0)", x -> x.start(e, 1, 0), NONE));
            calls.add(new Call("team(" + e + ", 0)", x -> x.team(e, 0), NONE));
            calls.add(new Call("differ(" + e + ", 0, 0)", x -> x.differ(e, 0, 0), NONE));
            calls.add(new Call("differ(0, " + e + ", 0)", x -> x.differ(0, e, 0), NONE));
        }
        return calls;
    }

    /** Questions for the i-th where there is none such. */
    private static List<Call> refusedPlaces(State s) {
        List<Call> calls = new ArrayList<>();
        for (int i : new int[] {-1, s.jumpers, 24, LOWEST, HIGHEST, NONE}) {
            int e = s.entries;
            calls.add(new Call("list(" + e + ", " + i + ")", x -> x.list(e, i), NONE));
            calls.add(new Call("start(" + e + ", 0, " + i + ")", x -> x.start(e, 0, i), NONE));
            calls.add(new Call("start(" + e + ", 1, " + i + ")", x -> x.start(e, 1, i), NONE));
            calls.add(new Call("differ(0, " + e + ", " + i + ")", x -> x.differ(0, e, i), NONE));
            calls.add(new Call("differ(" + e + ", " + e + ", 0)", x -> x.differ(e, e, 0), NONE));
        }
        return calls;
    }

    /** Questions with a JUMPER, ROUND, TEAM or what that there isn't. */
    private static List<Call> refusedNumbers(State s) {
        List<Call> calls = new ArrayList<>();
        int e = s.entries;
        for (int bad : new int[] {-1, 24, 32, LOWEST, HIGHEST, NONE}) {
            calls.add(new Call("rule(" + bad + ")", x -> x.rule(bad), NONE));
            calls.add(new Call("team(" + e + ", " + bad + ")", x -> x.team(e, bad), NONE));
            calls.add(new Call("record(" + bad + ")", x -> x.record(bad), NONE));
            calls.add(new Call("count(" + bad + ")", x -> x.count(bad), NONE));
            calls.add(new Call("start(" + e + ", " + bad + ", 0)", x -> x.start(e, bad, 0), NONE));
            calls.add(new Call("points(" + e + ", 0, 0, " + bad + ")", x -> x.points(e, 0, 0, bad), NONE));
            calls.add(new Call("points(" + e + ", 0, " + bad + ", 7)", x -> x.points(e, 0, bad, 7), NONE));
            calls.add(new Call("points(" + e + ", " + bad + ", 0, 7)", x -> x.points(e, bad, 0, 7), NONE));
            calls.add(new Call("told(" + e + ", 0, " + bad + ")", x -> x.told(e, 0, bad), NONE));
            calls.add(new Call("told(" + e + ", " + bad + ", 3)", x -> x.told(e, bad, 3), NONE));
        }
        return calls;
    }

    /** Makes the calls, sixty at once, in the one hill and not in the other, and asks both. */
    private static void compare(State s, List<Call> calls) {
        for (int from = 0; from < calls.size(); from += 60) {
            List<Call> some = calls.subList(from, Math.min(calls.size(), from + 60));
            JumpHill x = s.made();
            for (Call call : some) {
                int got = call.on.applyAsInt(x);
                if (got != call.refusal) {
                    fails(s.name + ": " + call.name + " answered " + got + ", due is " + call.refusal);
                }
            }
            String changed = changedBy(s, some);
            if (changed != null) {
                fails(s.name + ": refused " + guilty(s, some) + ", but then otherwise: " + changed);
            }
        }
    }

    private static String guilty(State s, List<Call> calls) {
        for (Call call : calls) {
            if (changedBy(s, List.of(call)) != null) {
                return call.name;
            }
        }
        return calls.get(0).name + " and what follows it";
    }

    /** The first question that is answered otherwise behind the calls, or null. */
    private static String changedBy(State s, List<Call> calls) {
        List<Call> questions = questions(s);
        for (int from = 0; from < questions.size(); from += QUESTIONS_A_HILL) {
            JumpHill with = s.made();
            JumpHill without = s.made();
            for (Call call : calls) {
                call.on.applyAsInt(with);
            }
            for (int i = from; i < questions.size() && i < from + QUESTIONS_A_HILL; i++) {
                Call question = questions.get(i);
                if (question.on.applyAsInt(with) != question.on.applyAsInt(without)) {
                    return question.name;
                }
            }
        }
        for (Call deed : deeds(s)) {
            JumpHill with = s.made();
            JumpHill without = s.made();
            for (Call call : calls) {
                call.on.applyAsInt(with);
            }
            if (deed.on.applyAsInt(with) != deed.on.applyAsInt(without)) {
                return deed.name;
            }
        }
        return null;
    }

    /** Questions are answered alike, too, behind questions that are not refused. */
    private static void compareQuestions(State s) {
        List<Call> questions = questions(s);
        for (int from = 0; from < questions.size(); from += 60) {
            List<Call> some = questions.subList(from, Math.min(questions.size(), from + 60));
            String changed = changedBy(s, some);
            if (changed != null) {
                fails(s.name + ": asked " + guilty(s, some) + ", then otherwise: " + changed);
            }
        }
    }

    private static List<Call> questions(State s) {
        List<Call> all = new ArrayList<>();
        for (int what = 0; what < 15; what++) {
            int w = what;
            all.add(new Call("count(" + w + ")", x -> x.count(w), 0));
            all.add(new Call("rule(" + w + ")", x -> x.rule(w), 0));
            all.add(new Call("record(" + w + ")", x -> x.record(w), 0));
        }
        for (int e : new int[] {s.entries, s.entries / 2}) {
            for (int n = 0; n < Math.max(6, s.jumpers); n++) {
                int i = n;
                all.add(new Call("list(" + e + ", " + i + ")", x -> x.list(e, i), 0));
                all.add(new Call("start(" + e + ", 1, " + i + ")", x -> x.start(e, 1, i), 0));
                all.add(new Call("start(" + e + ", 0, " + i + ")", x -> x.start(e, 0, i), 0));
                all.add(new Call("team(" + e + ", " + i + ")", x -> x.team(e, i), 0));
                all.add(new Call("differ(" + e + ", 0, " + i + ")", x -> x.differ(e, 0, i), 0));
                for (int what = 0; what < 8; what++) {
                    int w = what;
                    all.add(new Call("told(" + e + ", " + i + ", " + w + ")", x -> x.told(e, i, w), 0));
                    all.add(new Call("points(" + e + ", " + i + ", 0, " + w + ")", x -> x.points(e, i, 0, w), 0));
                    all.add(new Call("points(" + e + ", " + i + ", 1, " + w + ")", x -> x.points(e, i, 1, w), 0));
                }
            }
        }
        return all;
    }

    /** Things told next, and in one number what is answered to them and behind them. */
    private static List<Call> deeds(State s) {
        List<Call> all = new ArrayList<>();
        all.add(new Call("the tape read as RULES", x -> {
            int sum = x.rules(s.taped);
            for (int what = 0; what < 7; what++) {
                sum = 31 * sum + x.rule(what);
            }
            return 31 * sum + x.count(6);
        }, 0));
        all.add(new Call("the tape's first bytes read as RULES", x -> {
            int sum = x.rules(s.taped >= 20 ? 18 : 0);
            for (int what = 0; what < 7; what++) {
                sum = 31 * sum + x.rule(what);
            }
            return sum;
        }, 0));
        all.add(new Call("a feed more, read as RULES", x -> {
            int sum = x.feed(0x3b743030, 0x30313b6d, 0x30303034, 0x3b683030, 0x30313b78);
            return 31 * (31 * sum + x.count(6)) + x.rules(x.count(6));
        }, 0));
        all.add(new Call("a new JUMPER", x -> 31 * (31 * x.jumper(3) + x.count(0)) + x.told(0, s.jumpers, 3), 0));
        all.add(new Call("new ENTRIES", x -> {
            int sum = x.reading(0, 0, 333, 20, false);
            sum = 31 * sum + x.style(0, 30, 30, 30, 30, 30);
            sum = 31 * sum + x.wind(0, 1, 20, 300, 4, 50);
            sum = 31 * sum + x.record(0);
            return 31 * (31 * sum + x.points(x.count(1), 0, 0, 0)) + x.count(1);
        }, 0));
        all.add(new Call("all STRUCK, and THE RECORD then", x -> {
            int sum = 0;
            for (int j = 0; j < s.jumpers; j++) {
                sum = 31 * (31 * sum + x.strike(j, 0, true)) + x.strike(j, 1, true);
            }
            return 31 * (31 * sum + x.record(0)) + x.record(1);
        }, 0));
        all.add(new Call("the contest CLOSED", x -> {
            int sum = x.close();
            for (int j = 0; j < s.jumpers; j++) {
                sum = 31 * sum + x.told(0, j, 4);
            }
            sum = 31 * (31 * sum + x.record(0)) + x.record(1);
            return 31 * (31 * sum + x.count(2)) + x.reading(0, 0, 250, 20, false);
        }, 0));
        return all;
    }

    /** All memory is the hill's own: it answers alike before and behind what another is told. */
    private static void compareBesideAnother(State s) {
        List<Call> questions = questions(s);
        for (int from = 0; from < questions.size(); from += QUESTIONS_A_HILL / 2) {
            List<Call> some = questions.subList(from, Math.min(questions.size(), from + QUESTIONS_A_HILL / 2));
            JumpHill x = s.made();
            int[] before = some.stream().mapToInt(question -> question.on.applyAsInt(x)).toArray();
            tellAnother();
            for (int i = 0; i < before.length; i++) {
                if (some.get(i).on.applyAsInt(x) != before[i]) {
                    fails(s.name + ": another hill was told, and then otherwise: " + some.get(i).name);
                }
            }
        }
        for (Call deed : deeds(s)) {
            int alone = deed.on.applyAsInt(s.made());
            JumpHill x = s.made();
            tellAnother();
            if (deed.on.applyAsInt(x) != alone) {
                fails(s.name + ": another hill was told, and then otherwise: " + deed.name);
            }
        }
    }

    private static void tellAnother() {
        JumpHill x = new JumpHill();
        for (int j = 0; j < 24; j++) {
            x.jumper((j + 1) % 6);
        }
        feedText(x, "k100;m1;w2;g3;h4;c5;");
        x.rules(19);
        x.base(3);
        for (int n = 0; n < 150; n++) {
            x.sensor(n % 5, n % 10);
            x.reading(n % 24, n / 24 % 2, 3 * n, 1 + n % 50, n % 2 == 0);
            x.style(n % 24, 21, 22, 23, 24, 25);
            if (n == 60) {
                x.close();
            }
        }
        feedText(x, SIXTY.replace(';', '+'));
    }

    /** A text with a FAULT changes the tape, and nothing else. */
    private static void faults() {
        String[] texts = {"k19", "m9;k601", "x", "m5;", "m5;w", "m5;w00000", "m5x", "c0", "t1;t0;t2"};
        for (String text : texts) {
            List<Call> calls = List.of(new Call("a FAULT in " + text, x -> {
                StringBuilder twenty = new StringBuilder(text);
                while (twenty.length() < 20) {
                    twenty.append(' ');
                }
                feedText(x, twenty.toString());
                return x.rules(text.length());
            }, 0));
            State before = new State("before " + text, x -> {
                underWay(x);
                x.rules(40);
            });
            State empty = new State("with an empty tape", x -> {
                before.story.accept(x);
                if (x.rules(0) != 100) {
                    fails("rules(0) is a FAULT");
                }
            });
            JumpHill x = empty.made();
            int fault = calls.get(0).on.applyAsInt(x);
            if (fault < 100 || x.count(6) != 0) {
                fails(text + " answered " + fault + ", and the tape has " + x.count(6));
            }
            String changed = changedBy(empty, calls);
            if (changed != null) {
                fails("a FAULT in " + text + ", and then otherwise: " + changed);
            }
        }
    }
}
