/** For each promise of DOC.md: ordinary inputs, the edges that it names, and wrong inputs. */
public final class PromisesTest {
    private static final int NONE = JumpHill.NONE;
    private static int wrong = 0;

    public static void main(String[] args) {
        newObject();
        feed();
        rules();
        rule();
        jumper();
        sensor();
        base();
        reading();
        wind();
        style();
        strike();
        points();
        pointsOfGate();
        pointsOfWind();
        told();
        through();
        list();
        start();
        team();
        record();
        recordOfClosed();
        differ();
        close();
        count();
        knowings();
        System.out.println(wrong == 0 ? "PromisesTest: all answers are as due" : "PromisesTest: " + wrong + " wrong");
        if (wrong != 0) {
            System.exit(1);
        }
    }

    private static void due(String what, int got, int want) {
        if (got != want) {
            wrong++;
            System.out.println(what + " answered " + got + ", due is " + want);
        }
    }

    private static void due(String what, boolean got, boolean want) {
        due(what, got ? 1 : 0, want ? 1 : 0);
    }

    private static void due(String what, int[] got, int... want) {
        if (!java.util.Arrays.equals(got, want)) {
            wrong++;
            System.out.println(what + " answered " + java.util.Arrays.toString(got)
                    + ", due is " + java.util.Arrays.toString(want));
        }
    }

    /** Feeds a text, filled up with blanks to whole twenties. */
    private static int feedText(JumpHill x, String text) {
        int had = NONE;
        for (int from = 0; from == 0 || from < text.length(); from += 20) {
            int[] w = new int[5];
            for (int i = 0; i < 20; i++) {
                int sign = from + i < text.length() ? text.charAt(from + i) : ' ';
                w[i / 4] = w[i / 4] << 8 | sign;
            }
            had = x.feed(w[0], w[1], w[2], w[3], w[4]);
        }
        return had;
    }

    private static int tell(JumpHill x, String text) {
        feedText(x, text);
        return x.rules(text.length());
    }

    private static JumpHill hill(int jumpers) {
        JumpHill x = new JumpHill();
        for (int i = 0; i < jumpers; i++) {
            x.jumper(i % 6);
        }
        return x;
    }

    /** A hill where each half metre is a point and ROUND 0 has a READING for each of the lengths. */
    private static JumpHill jumped(String text, int... lengths) {
        JumpHill x = hill(lengths.length);
        due("rules " + text, tell(x, text), 0);
        for (int j = 0; j < lengths.length; j++) {
            if (lengths[j] >= 0) {
                x.reading(j, 0, lengths[j], 20, false);
            }
        }
        return x;
    }

    private static int now(JumpHill x) {
        return x.count(1);
    }

    private static int[] listOf(JumpHill x, int e) {
        int n = 0;
        while (n < 30 && x.list(e, n) != NONE) {
            n++;
        }
        int[] row = new int[n];
        for (int i = 0; i < n; i++) {
            row[i] = x.list(e, i);
        }
        return row;
    }

    private static int[] startOf(JumpHill x, int e, int round) {
        int n = 0;
        while (n < 30 && x.start(e, round, n) != NONE) {
            n++;
        }
        int[] row = new int[n];
        for (int i = 0; i < n; i++) {
            row[i] = x.start(e, round, i);
        }
        return row;
    }

    private static int[] toldOf(JumpHill x, int e, int what) {
        int[] row = new int[x.count(0)];
        for (int j = 0; j < row.length; j++) {
            row[j] = x.told(e, j, what);
        }
        return row;
    }

    private static int[] rulesOf(JumpHill x) {
        int[] row = new int[7];
        for (int i = 0; i < 7; i++) {
            row[i] = x.rule(i);
        }
        return row;
    }

    private static void newObject() {
        JumpHill x = new JumpHill();
        due("1 RULES at first", rulesOf(x), 240, 18, 100, 70, 95, 12, 1);
        int[] counts = new int[7];
        for (int i = 0; i < 7; i++) {
            counts[i] = x.count(i);
        }
        due("1 counts at first", counts, 0, 0, 0, 20, 0, 0, 0);
        for (int s = 0; s < 5; s++) {
            due("1 weight at first", x.count(10 + s), 1);
        }
        due("1 no record", x.record(0), NONE);
        due("1 NONE", NONE, -10000);
        JumpHill y = hill(2);
        y.base(7);
        y.sensor(0, 5);
        tell(y, "k100");
        JumpHill z = new JumpHill();
        due("1 memory is the hill's own", rulesOf(z), 240, 18, 100, 70, 95, 12, 1);
        due("1 jumpers are the hill's own", z.count(0), 0);
        due("1 base is the hill's own", z.count(3), 20);
        due("1 weights are the hill's own", z.count(10), 1);
    }

    private static void feed() {
        JumpHill x = new JumpHill();
        due("2 first", x.feed(0, 0, 0, 0, 0), 20);
        due("2 second", x.feed(-1, -1, -1, -1, -1), 40);
        due("2 third", x.feed(1, 2, 3, 4, 5), 60);
        due("2 too many", x.feed(1, 2, 3, 4, 5), NONE);
        due("2 refused changes nothing", x.count(6), 60);
        due("2 bytes come behind the tape", tell(hillWithText("k240;m18;w100;g70;h9"), ""), 100);
        JumpHill y = new JumpHill();
        y.feed(0x6b323430, 0x3b6d3138, 0x3b773130, 0x303b6737, 0x303b6835);
        y.feed(0x303b6334, 0x3b743020, 0, 0, 0);
        due("2 order of bytes", y.rules(27), 0);
        due("2 bytes read", rulesOf(y), 240, 18, 100, 70, 50, 4, 0);
        JumpHill high = new JumpHill();
        high.feed(0xeb323430, 0, 0, 0, 0);
        due("2 a byte of 128 and more is no letter", high.rules(4), 100);
    }

    private static JumpHill hillWithText(String text) {
        JumpHill x = new JumpHill();
        feedText(x, text);
        return x;
    }

    private static void rules() {
        JumpHill x = new JumpHill();
        due("3 all letters", tell(x, "t0;c24;h200;g999;w999;m99;k600"), 0);
        due("3 greatest", rulesOf(x), 600, 99, 999, 999, 200, 24, 0);
        due("3 least", tell(x, "t0;c1;h0;g0;w0;m0;k20"), 0);
        due("3 least read", rulesOf(x), 20, 0, 0, 0, 0, 1, 0);
        due("3 one clause", tell(x, "g5"), 0);
        due("3 others as at first", rulesOf(x), 240, 18, 100, 5, 95, 12, 1);
        due("3 zeros in front", tell(x, "k0240;m0009;t0001;c1;c0002"), 0);
        due("3 later one counts", rulesOf(x), 240, 9, 100, 70, 95, 2, 1);
        String[] texts = {"", "x", "K40", ";", "k", "kk", "k;", "k 40", "k12345", "k99999", "k00000", "k19", "k601",
            "m100", "w1000", "g1000", "h201", "c0", "c25", "t2", "k19x", "k40 ", "k40,", "k40m1", "k40;", "k40;;",
            "k40;x1", "k40;m", "k40;m100", "k40;m12345", "k40;m1:", "0", "k40;k19;x", "k-40", "t9999", "k0019"};
        int[] faults = {100, 100, 100, 100, 201, 201, 201, 201, 305, 305, 305, 401, 401,
            401, 401, 401, 401, 401, 401, 401, 401, 503, 503, 503, 104, 104,
            104, 205, 405, 309, 506, 100, 405, 201, 401, 401};
        for (int i = 0; i < texts.length; i++) {
            due("3 fault of <" + texts[i] + ">", tell(x, texts[i]), faults[i]);
            due("3 tape after a fault", x.count(6), 0);
        }
        due("3 RULES stay", rulesOf(x), 240, 9, 100, 70, 95, 2, 1);
        feedText(x, "k99");
        due("3 too many bytes", x.rules(21), NONE);
        due("3 less than none", x.rules(-1), NONE);
        due("3 far too many", x.rules(Integer.MAX_VALUE), NONE);
        due("3 far less than none", x.rules(Integer.MIN_VALUE), NONE);
        due("3 tape stays", x.count(6), 20);
        due("3 then it is read", x.rules(3), 0);
        due("3 tape is empty then", x.count(6), 0);
        due("3 what was read", x.rule(0), 99);
        String full = "k240;m18;w100;g70;h95;c12;t1;k241;m19;w101;g71;h96;c13;t0;k9";
        due("3 sixty bytes", tell(x, full), 459);
        due("3 they stay", x.rule(0), 99);
        due("3 fifty-seven", tell(x, full.substring(0, 57)), 0);
        due("3 the later ones", rulesOf(x), 241, 19, 101, 71, 96, 13, 0);
        JumpHill y = jumped("m20;k20", 30, 20);
        due("3 before", y.points(2, 0, 0, 0), 1400);
        tell(y, "m10;k20");
        due("3 RULES count for what is told already", y.points(1, 0, 0, 0), 1300);
    }

    private static void rule() {
        JumpHill x = new JumpHill();
        tell(x, "k101;m2;w3;g4;h5;c6;t0");
        due("4 letters", rulesOf(x), 101, 2, 3, 4, 5, 6, 0);
        for (int what : new int[] {-1, 7, Integer.MAX_VALUE, Integer.MIN_VALUE}) {
            due("4 no letter", x.rule(what), NONE);
        }
    }

    private static void jumper() {
        JumpHill x = new JumpHill();
        due("5 no team", x.jumper(-1), NONE);
        due("5 no team 6", x.jumper(6), NONE);
        for (int i = 0; i < 24; i++) {
            due("5 number", x.jumper(5 - i % 6), i);
        }
        due("5 twenty-fifth", x.jumper(0), NONE);
        due("5 twenty-four are there", x.count(0), 24);
        due("5 team", x.told(0, 7, 3), 4);
    }

    private static void sensor() {
        JumpHill x = hill(1);
        x.wind(0, 10, 20, 30, 40, 50);
        due("6 before", x.points(1, 0, 0, 7), 30);
        due("6 greatest", x.sensor(4, 9), true);
        due("6 it counts for all ENTRIES", x.points(1, 0, 0, 7), 42);
        due("6 none", x.sensor(0, 0), true);
        due("6 weight", x.count(10), 0);
        due("6 weight of the last", x.count(14), 9);
        due("6 no sensor", x.sensor(-1, 1), false);
        due("6 no sensor 5", x.sensor(5, 1), false);
        due("6 too light", x.sensor(1, -1), false);
        due("6 too heavy", x.sensor(1, 10), false);
        due("6 refused changes nothing", x.count(11), 1);
    }

    private static void base() {
        JumpHill x = jumped("k100", 100);
        due("7 before", x.points(1, 0, 0, 3), 0);
        due("7 least", x.base(1), true);
        due("7 BASE counts for all ENTRIES", x.points(1, 0, 0, 3), -2660);
        due("7 greatest", x.base(50), true);
        due("7 above", x.points(1, 0, 0, 3), 4200);
        due("7 gate 0", x.base(0), false);
        due("7 gate 51", x.base(51), false);
        due("7 refused changes nothing", x.count(3), 50);
    }

    private static void reading() {
        JumpHill x = hill(2);
        due("8 least", x.reading(0, 0, 0, 1, false), 0);
        due("8 greatest", x.reading(1, 1, 600, 50, true), 1);
        due("8 no jumper", x.reading(2, 0, 100, 20, false), NONE);
        due("8 no jumper -1", x.reading(-1, 0, 100, 20, false), NONE);
        due("8 no round", x.reading(0, 2, 100, 20, false), NONE);
        due("8 no round -1", x.reading(0, -1, 100, 20, false), NONE);
        due("8 too short", x.reading(0, 0, -1, 20, false), NONE);
        due("8 too long", x.reading(0, 0, 601, 20, false), NONE);
        due("8 no gate", x.reading(0, 0, 100, 0, false), NONE);
        due("8 no gate 51", x.reading(0, 0, 100, 51, false), NONE);
        due("8 refused ones are no ENTRIES", now(x), 2);
        due("8 the later one counts", x.reading(0, 0, 240, 20, false), 2);
        due("8 later", x.points(3, 0, 0, 0), 1200);
        for (int i = 3; i < 200; i++) {
            due("8 number", x.reading(0, 0, i, 20, false), i);
        }
        due("8 full", x.reading(0, 0, 1, 20, false), NONE);
        due("8 full of wind", x.wind(0, 0, 0, 0, 0, 0), NONE);
        due("8 full of style", x.style(0, 0, 0, 0, 0, 0), NONE);
        due("8 full of strikes", x.strike(0, 0, true), NONE);
        due("8 two hundred", now(x), 200);
        due("8 length of the last", x.points(200, 0, 0, 1), 1200 + 18 * (199 - 240));
    }

    private static void wind() {
        JumpHill x = hill(24);
        due("9 least", x.wind(0, -999, -999, -999, -999, -999), 0);
        due("9 greatest", x.wind(55, 999, 999, 999, 999, 999), 1);
        due("9 failed", x.wind(23, NONE, NONE, NONE, NONE, NONE), 2);
        due("9 mean of least", x.points(3, 0, 0, 7), -999);
        due("9 mean of ROUND 1", x.points(3, 23, 1, 7), 999);
        due("9 mean of failed", x.points(3, 23, 0, 7), 0);
        due("9 first of ROUND 1", x.wind(32, 7, 7, 7, 7, 7), 3);
        due("9 mean of the first in ROUND 1", x.points(4, 0, 1, 7), 7);
        for (int j : new int[] {-1, -32, 24, 31, 56, 63, 64, 96, Integer.MAX_VALUE, Integer.MIN_VALUE}) {
            due("9 no such " + j, x.wind(j, 0, 0, 0, 0, 0), NONE);
        }
        for (int read : new int[] {1000, -1000, -9999, -10001, 10000}) {
            due("9 a", x.wind(0, read, 0, 0, 0, 0), NONE);
            due("9 b", x.wind(0, 0, read, 0, 0, 0), NONE);
            due("9 c", x.wind(0, 0, 0, read, 0, 0), NONE);
            due("9 d", x.wind(0, 0, 0, 0, read, 0), NONE);
            due("9 e", x.wind(0, 0, 0, 0, 0, read), NONE);
        }
        due("9 refused ones are no ENTRIES", now(x), 4);
        int[] weights = {1, 2, 3, 4, 9};
        for (int s = 0; s < 5; s++) {
            x.sensor(s, weights[s]);
        }
        for (int s = 0; s < 5; s++) {
            x.wind(2, s == 0 ? 190 : 0, s == 1 ? 190 : 0, s == 2 ? 190 : 0, s == 3 ? 190 : 0, s == 4 ? 190 : 0);
            due("9 sensor " + s, x.points(now(x), 2, 0, 7), 10 * weights[s]);
        }
    }

    private static void style() {
        JumpHill x = hill(2);
        x.reading(0, 0, 240, 20, false);
        x.reading(1, 1, 240, 20, false);
        due("10 none told", x.points(2, 0, 0, 2), 0);
        due("10 ROUND 0", x.style(0, 0, 10, 20, 30, 40), 2);
        due("10 ROUND 1", x.style(33, 40, 40, 40, 40, 40), 3);
        due("10 points", x.points(4, 0, 0, 2), 600);
        due("10 of ROUND 1", x.points(4, 1, 1, 2), 1200);
        due("10 all", x.points(4, 1, 1, 0), 2400);
        x.style(0, 30, 20, 21, 22, 23);
        due("10 first is the greatest", x.points(5, 0, 0, 2), 660);
        x.style(0, 22, 30, 21, 23, 20);
        due("10 last is the least", x.points(6, 0, 0, 2), 660);
        x.style(0, 0, 0, 0, 0, 1);
        due("10 only the greatest", x.points(7, 0, 0, 2), 0);
        x.style(0, 0, 40, 40, 0, 0);
        due("10 one of each", x.points(8, 0, 0, 2), 400);
        due("10 first of ROUND 1", x.style(32, 40, 40, 40, 40, 40), 8);
        for (int mark : new int[] {-1, 41}) {
            due("10 a", x.style(0, mark, 0, 0, 0, 0), NONE);
            due("10 b", x.style(0, 0, mark, 0, 0, 0), NONE);
            due("10 c", x.style(0, 0, 0, mark, 0, 0), NONE);
            due("10 d", x.style(0, 0, 0, 0, mark, 0), NONE);
            due("10 e", x.style(0, 0, 0, 0, 0, mark), NONE);
        }
        for (int j : new int[] {-1, 2, 31, 34, 64, 65}) {
            due("10 no such " + j, x.style(j, 0, 0, 0, 0, 0), NONE);
        }
        due("10 refused ones are no ENTRIES", now(x), 9);
        JumpHill y = hill(1);
        y.style(0, 20, 20, 20, 20, 20);
        y.reading(0, 0, 240, 20, false);
        due("10 told before the READING", y.points(2, 0, 0, 2), 600);
    }

    private static void strike() {
        JumpHill x = hill(2);
        x.reading(0, 0, 240, 20, false);
        due("11 not STRUCK at first", x.strike(0, 0, false), NONE);
        due("11 STRUCK", x.strike(0, 0, true), 1);
        due("11 STRUCK already", x.strike(0, 0, true), NONE);
        due("11 no POINTS", x.points(2, 0, 0, 0), NONE);
        due("11 before", x.points(1, 0, 0, 0), 1200);
        x.reading(0, 0, 250, 20, false);
        due("11 a new READING is STRUCK, too", x.points(3, 0, 0, 0), NONE);
        due("11 not any more", x.strike(0, 0, false), 3);
        due("11 POINTS again", x.points(4, 0, 0, 0), 1380);
        due("11 not already", x.strike(0, 0, false), NONE);
        due("11 again", x.strike(0, 0, true), 4);
        due("11 the other ROUND is another JUMP", x.strike(0, 1, true), 5);
        due("11 the other JUMPER", x.strike(1, 0, true), 6);
        due("11 no jumper", x.strike(2, 0, true), NONE);
        due("11 no jumper -1", x.strike(-1, 0, true), NONE);
        due("11 no round", x.strike(0, 2, true), NONE);
        due("11 no round -1", x.strike(1, -1, true), NONE);
        due("11 refused ones are no ENTRIES", now(x), 7);
        JumpHill y = hill(1);
        due("11 before the READING", y.strike(0, 0, true), 0);
        y.reading(0, 0, 240, 20, false);
        due("11 the first ENTRY counts", y.points(2, 0, 0, 0), NONE);
        due("11 and is known now", y.strike(0, 0, true), NONE);
    }

    private static void points() {
        JumpHill x = hill(1);
        tell(x, "k200;m15;w50;g30");
        x.reading(0, 0, 210, 17, false);
        x.wind(0, 150, NONE, NONE, NONE, NONE);
        x.style(0, 34, 35, 36, 37, 38);
        int[] due = {1200 + 150 + 1080 + 180 - 150, 1350, 1080, 180, -150, 180, -150, 150};
        for (int what = 0; what < 8; what++) {
            due("12 what " + what, x.points(3, 0, 0, what), due[what]);
        }
        due("12 what -1", x.points(3, 0, 0, -1), NONE);
        due("12 what 8", x.points(3, 0, 0, 8), NONE);
        for (int what = 0; what < 8; what += 7) {
            due("12 no knowing", x.points(4, 0, 0, what), NONE);
            due("12 no knowing -1", x.points(-1, 0, 0, what), NONE);
            due("12 no jumper", x.points(3, 1, 0, what), NONE);
            due("12 no jumper -1", x.points(3, -1, 0, what), NONE);
            due("12 no round", x.points(3, 0, 2, what), NONE);
            due("12 no round -1", x.points(3, 0, -1, what), NONE);
        }
        x.strike(0, 0, true);
        for (int what = 0; what < 7; what++) {
            due("12 STRUCK " + what, x.points(4, 0, 0, what), NONE);
            due("12 without READING " + what, x.points(4, 0, 1, what), NONE);
        }
        due("12 THE MEAN though STRUCK", x.points(4, 0, 0, 7), 150);
        due("12 THE MEAN without WIND", x.points(4, 0, 1, 7), 0);
        JumpHill y = jumped("k600;m99", 0, 600);
        due("12 0 at least", y.points(2, 0, 0, 0), 0);
        due("12 LENGTH below 0", y.points(2, 0, 0, 1), 1200 - 99 * 600);
        due("12 at THE POINT", y.points(2, 1, 0, 1), 1200);
        JumpHill z = jumped("k370;m40", 90);
        due("12 LENGTH can be that number, too", z.points(1, 0, 0, 1), -10000);
        due("12 and GATE is told still", z.points(1, 0, 0, 3), 0);
    }

    private static void pointsOfGate() {
        JumpHill x = hill(1);
        tell(x, "k200;m10;g30;h95");
        x.reading(0, 0, 190, 15, true);
        due("12 GATE at h", x.points(1, 0, 0, 3), 300);
        x.reading(0, 0, 189, 15, true);
        due("12 GATE below h", x.points(2, 0, 0, 3), 0);
        due("12 WORTH of GATE below h", x.points(2, 0, 0, 5), 0);
        x.reading(0, 0, 189, 15, false);
        due("12 GATE without COACH", x.points(3, 0, 0, 3), 300);
        x.reading(0, 0, 190, 25, true);
        due("12 GATE above BASE", x.points(4, 0, 0, 3), -300);
        due("12 WORTH of GATE above BASE", x.points(4, 0, 0, 5), -300);
        tell(x, "k200;m0;g500");
        due("12 all at 0", x.points(4, 0, 0, 0), 0);
        due("12 WORTH ends at 0", x.points(4, 0, 0, 5), -1200);
        tell(x, "k201;h95");
        x.reading(0, 0, 190, 15, true);
        due("12 below h by hundredths", x.points(5, 0, 0, 3), 0);
        x.reading(0, 0, 191, 15, true);
        due("12 above h by hundredths", x.points(6, 0, 0, 3), 700);
        tell(x, "g100");
        x.reading(0, 0, 240, 50, false);
        x.base(1);
        due("12 far above BASE", x.points(7, 0, 0, 3), -9800);
        tell(x, "k600;m99;g999");
        x.reading(0, 0, 0, 1, false);
        x.base(50);
        due("12 GATE alone", x.points(8, 0, 0, 0), 1200 - 99 * 600 + 2 * 999 * 49);
        due("12 WORTH of GATE is all there is", x.points(8, 0, 0, 5), 1200 - 99 * 600 + 2 * 999 * 49);
    }

    private static void pointsOfWind() {
        JumpHill x = hill(1);
        tell(x, "k200;w50");
        x.reading(0, 0, 200, 20, false);
        int[][] winds = {{1, 0, 0, 0, NONE}, {1, 1, 0, 0, NONE}, {-1, -1, 0, 0, NONE}, {3, 0, NONE, NONE, NONE},
            {-3, 0, NONE, NONE, NONE}, {0, 0, 0, 1, 1}, {1, 1, 1, 0, 0}, {NONE, NONE, NONE, NONE, 101}};
        int[] means = {0, 1, -1, 2, -2, 0, 1, 101};
        // w 50: a MEAN of 1 is half a tenth, and halves go away from 0.
        int[] parts = {0, -2, 2, -2, 2, 0, -2, -102};
        for (int i = 0; i < winds.length; i++) {
            int[] w = winds[i];
            x.wind(0, w[0], w[1], w[2], w[3], w[4]);
            due("12 THE MEAN " + i, x.points(2 + i, 0, 0, 7), means[i]);
            due("12 WIND " + i, x.points(2 + i, 0, 0, 4), parts[i]);
            due("12 WORTH of WIND " + i, x.points(2 + i, 0, 0, 6), parts[i]);
        }
        tell(x, "k200;w500;m99");
        x.wind(0, 999, 999, 999, 999, 999);
        due("12 WIND takes all", x.points(10, 0, 0, 0), 0);
        due("12 WIND itself", x.points(10, 0, 0, 4), -9990);
        due("12 WORTH of WIND is what there was", x.points(10, 0, 0, 6), -1200);
        tell(x, "w999");
        due("12 WIND rounded", x.points(10, 0, 0, 4), -2 * 9980);
        x.wind(0, 500, 500, 500, 500, 500);
        tell(x, "w1");
        due("12 a MEAN of 500 by 1", x.points(11, 0, 0, 4), -10);
        tell(x, "w1;k200");
        x.wind(0, 549, NONE, NONE, NONE, NONE);
        due("12 to the nearest whole", x.points(12, 0, 0, 4), -10);
        x.wind(0, 550, NONE, NONE, NONE, NONE);
        due("12 a half", x.points(13, 0, 0, 4), -12);
        tell(x, "w625");
        x.wind(0, 800, NONE, NONE, NONE, NONE);
        due("12 WIND can be that number, too", x.points(14, 0, 0, 4), -10000);
        for (int s = 0; s < 5; s++) {
            x.sensor(s, 0);
        }
        due("12 no weights", x.points(14, 0, 0, 7), 0);
        due("12 no weights, no WIND", x.points(14, 0, 0, 4), 0);
    }

    private static void told() {
        JumpHill x = jumped("k100;m10;c2;t0", 110, 120, 120, -1);
        x.reading(0, 1, 200, 20, false);
        x.reading(1, 1, 110, 20, false);
        x.reading(3, 1, 200, 20, false);
        int e = now(x);
        due("13 THROUGH", toldOf(x, e, 0), 0, 1, 1, 0);
        due("13 TOTAL", toldOf(x, e, 1), 1300, 1400 + 1300, 1400, NONE);
        due("13 PLACE", toldOf(x, e, 2), 3, 1, 2, NONE);
        due("13 TEAM", toldOf(x, e, 3), 0, 1, 2, 3);
        due("13 SEASON", toldOf(x, e, 4), 0, 0, 0, 0);
        for (int what : new int[] {-1, 5, Integer.MAX_VALUE, Integer.MIN_VALUE}) {
            due("13 what", x.told(e, 0, what), NONE);
        }
        for (int bad : new int[] {-1, e + 1, Integer.MAX_VALUE, Integer.MIN_VALUE}) {
            due("13 knowing of THROUGH", x.told(bad, 1, 0), NONE);
            due("13 knowing of TOTAL", x.told(bad, 1, 1), NONE);
            due("13 knowing of PLACE", x.told(bad, 1, 2), NONE);
            due("13 TEAM by any e", x.told(bad, 1, 3), 1);
            due("13 SEASON by any e", x.told(bad, 1, 4), 0);
        }
        for (int what = 0; what < 5; what++) {
            due("13 no jumper", x.told(e, 4, what), NONE);
            due("13 no jumper -1", x.told(e, -1, what), NONE);
        }
    }

    private static void through() {
        JumpHill x = jumped("k100;m10;c2", 120, 130, 120, 110, 120);
        due("13 all like the last one", toldOf(x, 5, 0), 1, 1, 1, 0, 1);
        due("13 PLACES shared", toldOf(x, 5, 2), 2, 1, 2, 5, 2);
        tell(x, "k100;m10;c2;t0");
        due("13 the first by numbers", toldOf(x, 5, 0), 1, 1, 0, 0, 0);
        due("13 PLACES of those that are not", toldOf(x, 5, 2), 2, 1, 3, 5, 3);
        tell(x, "k100;m10;c1;t0");
        due("13 one", toldOf(x, 5, 0), 0, 1, 0, 0, 0);
        tell(x, "k100;m10;c1");
        due("13 one alone", toldOf(x, 5, 0), 0, 1, 0, 0, 0);
        tell(x, "k100;m10;c6");
        due("13 fewer than c", toldOf(x, 5, 0), 1, 1, 1, 1, 1);
        x.reading(1, 1, 100, 20, false);
        x.reading(4, 1, 200, 20, false);
        x.strike(4, 1, true);
        due("13 TOTAL without ROUND 1", toldOf(x, 8, 1), 1400, 2700, 1400, 1300, 1400);
        x.strike(4, 1, false);
        due("13 TOTAL with it", toldOf(x, 9, 1), 1400, 2700, 1400, 1300, 3600);
        tell(x, "k600;m99");
        due("13 all have 0", toldOf(x, 9, 1), 0, 0, 0, 0, 0);
        due("13 PLACE with 0", toldOf(x, 9, 2), 1, 1, 1, 1, 1);
    }

    private static void list() {
        JumpHill x = jumped("k100;m10;c3;t0", 120, 130, 120, 110, 120, -1, 140);
        due("14 THE LIST", listOf(x, 6), 6, 1, 0, 2, 4, 3);
        x.reading(2, 1, 200, 20, false);
        x.reading(0, 1, 120, 20, false);
        due("14 only who is THROUGH gets ROUND 1", listOf(x, 8), 0, 6, 1, 2, 4, 3);
        due("14 as it was known", listOf(x, 3), 1, 0, 2);
        due("14 by nothing", listOf(x, 0));
        tell(x, "k600;m99");
        due("14 those with 0 by numbers", listOf(x, 8), 0, 1, 2, 3, 4, 6);
        tell(x, "k100;m10;c3;t0");
        due("14 i -1", x.list(8, -1), NONE);
        due("14 i behind", x.list(8, 6), NONE);
        due("14 i far behind", x.list(8, Integer.MAX_VALUE), NONE);
        due("14 knowing -1", x.list(-1, 0), NONE);
        due("14 knowing behind", x.list(9, 0), NONE);
    }

    private static void start() {
        JumpHill x = jumped("k100;m10;c4", 120, 130, 120, 110, 120, -1, 140);
        due("15 ROUND 0 by numbers", startOf(x, 6, 0), 0, 1, 2, 3, 4, 5, 6);
        due("15 ROUND 0 by nothing", startOf(x, 0, 0), 0, 1, 2, 3, 4, 5, 6);
        due("15 ROUND 1", startOf(x, 6, 1), 4, 2, 0, 1, 6);
        x.reading(4, 1, 300, 20, false);
        due("15 ROUND 1 doesn't look at its own POINTS", startOf(x, 7, 1), 4, 2, 0, 1, 6);
        due("15 as it was known", startOf(x, 2, 1), 0, 1);
        due("15 nobody", startOf(x, 0, 1));
        for (int round = 0; round < 2; round++) {
            due("15 i -1", x.start(7, round, -1), NONE);
            due("15 i behind", x.start(7, round, 7), NONE);
            due("15 knowing -1", x.start(-1, round, 0), NONE);
            due("15 knowing behind", x.start(8, round, 0), NONE);
        }
        due("15 no round", x.start(7, 2, 0), NONE);
        due("15 no round -1", x.start(7, -1, 0), NONE);
    }

    private static void team() {
        JumpHill x = new JumpHill();
        tell(x, "k100;m10;c2;t0");
        int[] teams = {0, 0, 0, 0, 0, 1, 1, 2};
        int[] lengths = {101, 105, 102, 104, 103, 106, 99, -1};
        for (int j = 0; j < 8; j++) {
            x.jumper(teams[j]);
            if (lengths[j] >= 0) {
                x.reading(j, 0, lengths[j], 20, false);
            }
        }
        due("16 four best", x.team(7, 0), 4 * 1200 + 140);
        due("16 fewer", x.team(7, 1), 2 * 1200 + 50);
        due("16 one JUMPER of it known", x.team(1, 0), 1210);
        x.reading(5, 1, 110, 20, false);
        x.reading(0, 1, 110, 20, false);
        x.reading(7, 1, 110, 20, false);
        due("16 ROUND 1 of who is THROUGH", x.team(10, 1), 3 * 1200 + 60 - 10 + 100);
        due("16 ROUND 1 of who is not", x.team(10, 0), 4 * 1200 + 140);
        due("16 none on THE LIST", x.team(10, 2), NONE);
        due("16 none in it", x.team(10, 5), NONE);
        due("16 no team", x.team(10, 6), NONE);
        due("16 no team -1", x.team(10, -1), NONE);
        due("16 knowing -1", x.team(-1, 0), NONE);
        due("16 knowing behind", x.team(11, 0), NONE);
        tell(x, "k600;m99");
        due("16 0 is no NONE", x.team(10, 0), 0);
    }

    private static void record() {
        JumpHill x = hill(4);
        due("17 none", x.record(0), NONE);
        x.reading(0, 0, 250, 20, false);
        due("17 without STYLE", x.record(0), NONE);
        x.style(0, 20, 20, 20, 20, 19);
        due("17 a mark below 20", x.record(0), NONE);
        x.style(0, 20, 20, 20, 20, 20);
        due("17 LENGTH", x.record(0), 250);
        due("17 JUMPER", x.record(1), 0);
        x.style(33, 40, 40, 40, 40, 40);
        x.style(2, 40, 40, 40, 40, 40);
        x.reading(2, 0, 260, 20, false);
        x.reading(1, 1, 260, 20, false);
        due("17 of like ones the first", x.record(1), 2);
        due("17 of like ones", x.record(0), 260);
        x.reading(2, 0, 260, 20, false);
        due("17 by the READING that counts", x.record(1), 1);
        x.strike(1, 1, true);
        due("17 STRUCK", x.record(1), 2);
        x.reading(2, 0, 240, 20, false);
        due("17 put right", x.record(0), 250);
        due("17 put right, JUMPER", x.record(1), 0);
        x.strike(1, 1, false);
        due("17 ROUND 1 without ROUND 0", x.record(1), 1);
        due("17 what -1", x.record(-1), NONE);
        due("17 what 2", x.record(2), NONE);
        x.reading(2, 0, 261, 20, false);
        due("17 by one half metre", x.record(1), 2);
        x.reading(1, 1, 262, 20, false);
        due("17 by one half metre more", x.record(1), 1);
        for (int i = 0; i < 5; i++) {
            JumpHill z = hill(1);
            z.reading(0, 0, 250, 20, false);
            z.style(0, i == 0 ? 19 : 40, i == 1 ? 19 : 40, i == 2 ? 19 : 40, i == 3 ? 19 : 40, i == 4 ? 19 : 40);
            due("17 mark " + i, z.record(0), NONE);
        }
        JumpHill last = hill(24);
        last.reading(23, 1, 250, 20, false);
        last.style(55, 20, 20, 20, 20, 20);
        due("17 last JUMP", last.record(1), 23);
        JumpHill y = hill(3);
        y.reading(2, 0, 0, 20, false);
        y.style(2, 20, 20, 20, 20, 20);
        due("17 LENGTH 0", y.record(0), 0);
        due("17 JUMPER of LENGTH 0", y.record(1), 2);
        y.close();
        due("17 LENGTH 0 of a CLOSED one", y.record(0), 0);
        y.reading(1, 0, 0, 20, false);
        y.style(1, 20, 20, 20, 20, 20);
        due("17 CLOSED with LENGTH 0 is before", y.record(1), 2);
    }

    private static void recordOfClosed() {
        JumpHill x = hill(3);
        x.style(2, 30, 30, 30, 30, 30);
        x.reading(2, 0, 250, 20, false);
        x.close();
        due("17 of a CLOSED one", x.record(0), 250);
        due("17 its JUMPER", x.record(1), 2);
        x.style(0, 30, 30, 30, 30, 30);
        x.reading(0, 0, 250, 20, false);
        due("17 CLOSED before one as great", x.record(1), 2);
        x.close();
        due("17 it stays", x.record(1), 2);
        x.style(1, 30, 30, 30, 30, 30);
        x.reading(1, 0, 251, 20, false);
        due("17 a greater one", x.record(1), 1);
        x.strike(1, 0, true);
        due("17 the greater one STRUCK", x.record(1), 2);
        x.strike(1, 0, false);
        x.close();
        due("17 the greater one stays", x.record(0), 251);
        due("17 its JUMPER, too", x.record(1), 1);
        x.reading(0, 0, 100, 20, false);
        x.style(0, 30, 30, 30, 30, 30);
        x.close();
        due("17 a lesser one is none", x.record(0), 251);
        x.reading(0, 0, 300, 20, false);
        x.style(0, 30, 30, 30, 30, 30);
        x.close();
        due("17 of the first JUMPER", x.record(1), 0);
    }

    private static void differ() {
        JumpHill x = jumped("k100;m10;c9", 120, 130, 110, 140);
        due("18 alike", x.differ(4, 4, 0), NONE);
        due("18 first", x.differ(0, 1, 0), 0);
        due("18 that is all", x.differ(0, 1, 1), NONE);
        due("18 by one alone, either way", x.differ(1, 0, 0), 0);
        due("18 0", x.differ(2, 4, 0), 0);
        due("18 1", x.differ(2, 4, 1), 1);
        due("18 2", x.differ(2, 4, 2), 2);
        due("18 3", x.differ(2, 4, 3), 3);
        due("18 4", x.differ(2, 4, 4), NONE);
        x.reading(2, 0, 135, 20, false);
        due("18 only some", x.differ(4, 5, 0), 0);
        due("18 some more", x.differ(5, 4, 1), 1);
        due("18 and one", x.differ(4, 5, 2), 2);
        due("18 not the first of THE LIST", x.differ(4, 5, 3), NONE);
        due("18 i -1", x.differ(4, 5, -1), NONE);
        due("18 e -1", x.differ(-1, 5, 0), NONE);
        due("18 f -1", x.differ(5, -1, 0), NONE);
        due("18 e behind", x.differ(6, 0, 0), NONE);
        due("18 f behind", x.differ(0, 6, 0), NONE);
        x.reading(3, 0, 150, 20, false);
        due("18 a TOTAL alone is no PLACE", x.differ(5, 6, 0), NONE);
    }

    private static void close() {
        JumpHill x = hill(2);
        due("19 nobody", x.close(), NONE);
        x.reading(0, 1, 100, 20, false);
        x.reading(1, 0, 100, 20, false);
        x.strike(1, 0, true);
        due("19 nobody on THE LIST", x.close(), NONE);
        due("19 refused changes nothing", now(x), 3);
        due("19 nor CLOSED", x.count(2), 0);
        int[] row = {100, 80, 60, 50, 45, 40, 36, 32, 29, 26, 24, 22, 20, 18, 16, 15, 14, 13, 12, 11, 10, 9, 8, 7};
        int[] lengths = new int[24];
        for (int j = 0; j < 24; j++) {
            lengths[j] = 400 - j;
        }
        JumpHill y = jumped("k100;m10", lengths);
        y.base(30);
        y.sensor(2, 7);
        feedText(y, "k50");
        due("19 all", y.close(), 24);
        due("19 SEASON", toldOf(y, 0, 4), row);
        due("19 ENTRIES are gone", now(y), 0);
        due("19 THE LIST, too", y.list(0, 0), NONE);
        due("19 no KNOWING 1", y.points(1, 0, 0, 7), NONE);
        due("19 JUMPERS stay", y.count(0), 24);
        due("19 RULES stay", y.rule(0), 100);
        due("19 BASE stays", y.count(3), 30);
        due("19 weights stay", y.count(12), 7);
        due("19 the tape stays", y.count(6), 20);
        due("19 CLOSED", y.count(2), 1);
        due("19 nothing is told any more", y.close(), NONE);
        due("19 a new ENTRY", y.reading(23, 0, 100, 20, false), 0);
        due("19 a new contest", y.points(1, 23, 0, 0), 1200 + 1400);
        due("19 one", y.close(), 1);
        due("19 the SEASON goes on", y.told(0, 23, 4), 107);
        due("19 who wasn't there", y.told(0, 0, 4), 100);
        JumpHill z = jumped("k100;m10;c2;t0", 120, 130, 120, 110, 120);
        z.strike(3, 0, true);
        due("19 four", z.close(), 4);
        due("19 each who shares", toldOf(z, 0, 4), 80, 100, 60, 0, 60);
        due("19 STRUCK is gone, too", z.strike(3, 0, true), 0);
    }

    private static void count() {
        JumpHill x = jumped("k100;m10;c2", 120, 130, 120, -1);
        x.base(3);
        feedText(x, "k5");
        x.sensor(0, 2);
        x.sensor(4, 6);
        int[] due = {4, 3, 0, 3, 3, 3, 20, NONE, NONE, NONE, 2, 1, 1, 1, 6, NONE};
        for (int what = 0; what < due.length; what++) {
            due("20 what " + what, x.count(what), due[what]);
        }
        due("20 -1", x.count(-1), NONE);
        due("20 far", x.count(Integer.MAX_VALUE), NONE);
        due("20 far below", x.count(Integer.MIN_VALUE), NONE);
        x.strike(1, 0, true);
        due("20 on THE LIST", x.count(4), 2);
        due("20 THROUGH", x.count(5), 2);
        x.close();
        due("20 CLOSED", x.count(2), 1);
        due("20 nobody on THE LIST", x.count(4), 0);
        due("20 nobody THROUGH", x.count(5), 0);
        x.reading(0, 0, 120, 20, false);
        due("20 one THROUGH", x.count(5), 1);
    }

    /** Questions about what was known before don't change what is known later. */
    private static void knowings() {
        JumpHill x = hill(2);
        x.reading(0, 0, 240, 20, false);
        x.wind(0, 100, 100, 100, 100, 100);
        x.style(0, 30, 30, 30, 30, 30);
        x.wind(0, 200, 200, 200, 200, 200);
        x.style(0, 40, 40, 40, 40, 40);
        x.reading(0, 0, 250, 20, false);
        x.strike(0, 0, true);
        x.reading(1, 0, 240, 20, false);
        x.strike(0, 0, false);
        int[] due = {NONE, 1200, 1000, 1900, 1700, 2000, 2180, NONE, NONE, 2180};
        for (int e = 9; e >= 0; e--) {
            due("12 by KNOWING " + e, x.points(e, 0, 0, 0), due[e]);
        }
        for (int e = 0; e <= 9; e++) {
            due("13 TOTAL by KNOWING " + e, x.told(e, 0, 1), due[e]);
        }
        due("14 who is on it while another is STRUCK", x.list(8, 0), 1);
    }
}
