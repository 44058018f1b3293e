import java.util.Arrays;

/**
 * The boundary cases of DOC.md, each sentence with a test of its own that bears the sentence as its name: the last
 * value that is taken and the first that is not, on both sides; what is empty and what is full. What a refused call
 * leaves as it was is RefusedTest's.
 */
public final class BoundaryTest {
    private static final int NONE = JumpHill.NONE;
    private static final int LOWEST = Integer.MIN_VALUE;
    private static final int HIGHEST = Integer.MAX_VALUE;
    private static final int[] RULES_AT_FIRST = {240, 18, 100, 70, 95, 12, 1};
    private static final String LETTERS = "kmwghct";

    private static String sentence = "";
    private static int wrong = 0;

    public static void main(String[] args) {
        numbersOfClauses();
        digitsOfClauses();
        clauses();
        faultPlaces();
        faultOrder();
        faultsAtTheEndOfTheTape();
        signsBesideTheRightOnes();
        tape();
        peopleAndSensors();
        boundsOfReading();
        boundsOfWind();
        boundsOfStyle();
        strikes();
        twoHundred();
        lastKnown();
        partOfLength();
        partOfStyle();
        partOfGate();
        coachAtH();
        mean();
        meanWithoutWeight();
        partOfWind();
        zeroAtLeast();
        worthAtZero();
        noPoints();
        through();
        throughAlike();
        totals();
        places();
        startOrder();
        teams();
        recordMarks();
        recordAlike();
        recordOfClosed();
        closed();
        whatStays();
        empty();
        knowings();
        questionsOutside();
        differences();
        counts();
        System.out.println(wrong == 0 ? "BoundaryTest: all answers are as due" : "BoundaryTest: " + wrong + " wrong");
        if (wrong != 0) {
            System.exit(1);
        }
    }

    private static void says(String words) {
        sentence = words;
    }

    private static void due(String call, int got, int want) {
        if (got != want) {
            wrong++;
            System.out.println("\"" + sentence + "\": " + call + " answered " + got + ", due is " + want);
        }
    }

    private static void due(String call, boolean got, boolean want) {
        due(call, got ? 1 : 0, want ? 1 : 0);
    }

    private static void due(String call, int[] got, int... want) {
        if (!Arrays.equals(got, want)) {
            wrong++;
            System.out.println("\"" + sentence + "\": " + call + " answered " + Arrays.toString(got)
                    + ", due is " + Arrays.toString(want));
        }
    }

    private static JumpHill hill(int jumpers) {
        JumpHill x = new JumpHill();
        for (int j = 0; j < jumpers; j++) {
            x.jumper(j % 6);
        }
        return x;
    }

    /** The bytes of a text and, behind them, as many of the filling sign as make whole twenties. */
    private static int feedText(JumpHill x, String text, char filling) {
        int had = NONE;
        for (int from = 0; from == 0 || from < text.length(); from += 20) {
            int[] words = new int[5];
            for (int i = 0; i < 20; i++) {
                int sign = from + i < text.length() ? text.charAt(from + i) : filling;
                words[i / 4] = words[i / 4] << 8 | sign & 255;
            }
            had = x.feed(words[0], words[1], words[2], words[3], words[4]);
        }
        return had;
    }

    private static int tell(JumpHill x, String text) {
        feedText(x, text, ' ');
        return x.rules(text.length());
    }

    /** A hill with a JUMPER and, if it isn't below 0, a READING in ROUND 0 for each LENGTH. */
    private static JumpHill jumped(String text, int... lengths) {
        JumpHill x = hill(lengths.length);
        due("rules of " + text, tell(x, text), 0);
        for (int j = 0; j < lengths.length; j++) {
            if (lengths[j] >= 0) {
                x.reading(j, 0, lengths[j], 20, false);
            }
        }
        return x;
    }

    private static int now(JumpHill x) {
        return x.count(1);
    }

    private static int part(JumpHill x, int j, int round, int what) {
        return x.points(now(x), j, round, what);
    }

    private static int[] rulesOf(JumpHill x) {
        int[] row = new int[7];
        for (int what = 0; what < 7; what++) {
            row[what] = x.rule(what);
        }
        return row;
    }

    private static int[] toldOf(JumpHill x, int what) {
        int[] row = new int[x.count(0)];
        for (int j = 0; j < row.length; j++) {
            row[j] = x.told(now(x), j, what);
        }
        return row;
    }

    /** Answers up to the first NONE, and that there is no more behind it. */
    private static int[] listOf(JumpHill x, int e) {
        int[] row = new int[25];
        int n = 0;
        for (int i = 0; i < 25 && x.list(e, i) != NONE; i++) {
            row[n++] = x.list(e, i);
        }
        return Arrays.copyOf(row, n);
    }

    private static int[] startOf(JumpHill x, int e, int round) {
        int[] row = new int[25];
        int n = 0;
        for (int i = 0; i < 25 && x.start(e, round, i) != NONE; i++) {
            row[n++] = x.start(e, round, i);
        }
        return Arrays.copyOf(row, n);
    }

    private static int[] differOf(JumpHill x, int e, int f) {
        int[] row = new int[25];
        int n = 0;
        for (int i = 0; i < 25 && x.differ(e, f, i) != NONE; i++) {
            row[n++] = x.differ(e, f, i);
        }
        return Arrays.copyOf(row, n);
    }

    private static String pad(int number, int digits) {
        StringBuilder b = new StringBuilder().append(number);
        while (b.length() < digits) {
            b.insert(0, '0');
        }
        return b.toString();
    }

    private static void numbersOfClauses() {
        says("k (20 to 600); m (0 to 99); w (0 to 999); g (0 to 999); h (0 to 200); c (1 to 24); t (0, 1)");
        int[] least = {20, 0, 0, 0, 0, 1, 0};
        int[] greatest = {600, 99, 999, 999, 200, 24, 1};
        for (int what = 0; what < 7; what++) {
            char letter = LETTERS.charAt(what);
            for (int number : new int[] {least[what], least[what] + 1, greatest[what] - 1, greatest[what]}) {
                JumpHill x = new JumpHill();
                due("rules of " + letter + number, tell(x, "" + letter + number), 0);
                int[] want = RULES_AT_FIRST.clone();
                want[what] = number;
                due("rule after " + letter + number, rulesOf(x), want);
            }
            for (int number : new int[] {least[what] - 1, greatest[what] + 1, 1000, 9999}) {
                if (number >= 0) {
                    JumpHill x = new JumpHill();
                    tell(x, "k300;m20;w200;g80;h90;c10;t0");
                    due("rules of " + letter + number, tell(x, "" + letter + number), 401);
                    due("RULES after " + letter + number, rulesOf(x), 300, 20, 200, 80, 90, 10, 0);
                }
            }
        }
    }

    private static void digitsOfClauses() {
        says("a number of one to four digits");
        for (int what = 0; what < 7; what++) {
            char letter = LETTERS.charAt(what);
            int number = what == 0 ? 20 : 1;
            JumpHill x = new JumpHill();
            due("no digit of " + letter, tell(x, "" + letter), 201);
            due("four digits of " + letter, tell(x, letter + pad(number, 4)), 0);
            due("what they are of " + letter, x.rule(what), number);
            due("a fifth digit of " + letter, tell(x, letter + pad(number, 5)), 305);
            due("a sixth digit of " + letter, tell(x, letter + pad(number, 6)), 305);
        }
        JumpHill x = new JumpHill();
        due("one digit", tell(x, "m5;c7"), 0);
        due("one digit is read", rulesOf(x), 240, 5, 100, 70, 95, 7, 1);
        says("no blanks");
        String[] texts = {" k20", "k 20", "k20 ", "k20; m1", "k20 ;m1", "k2 0"};
        int[] faults = {100, 201, 503, 104, 503, 401};
        for (int i = 0; i < texts.length; i++) {
            due("rules of <" + texts[i] + ">", tell(new JumpHill(), texts[i]), faults[i]);
        }
    }

    private static void clauses() {
        says("What no CLAUSE tells is as at first: k240, m18, w100, g70, h95, c12, t1");
        JumpHill x = new JumpHill();
        due("RULES of a new hill", rulesOf(x), RULES_AT_FIRST);
        tell(x, "k300;m20;w200;g80;h90;c10;t0");
        for (int what = 0; what < 7; what++) {
            int[] numbers = {301, 21, 201, 81, 91, 11, 0};
            int[] want = RULES_AT_FIRST.clone();
            want[what] = numbers[what];
            tell(x, "" + LETTERS.charAt(what) + numbers[what]);
            due("RULES of one CLAUSE", rulesOf(x), want);
        }
        says("the later one of a letter counts");
        int[] earlier = {600, 99, 999, 999, 200, 24, 1};
        int[] later = {20, 0, 0, 0, 0, 1, 0};
        for (int what = 0; what < 7; what++) {
            char letter = LETTERS.charAt(what);
            JumpHill y = new JumpHill();
            due("two of " + letter, tell(y, "" + letter + earlier[what] + ";" + letter + later[what]), 0);
            due("the later " + letter, y.rule(what), later[what]);
            due("two of " + letter, tell(y, "" + letter + later[what] + ";" + letter + earlier[what]), 0);
            due("the later " + letter, y.rule(what), earlier[what]);
        }
        due("three of m", tell(x, "m3;k50;m2;g4;m1;g5"), 0);
        due("the last of three", rulesOf(x), 50, 1, 100, 5, 95, 12, 1);
        says("RULES stay (of a text whose first CLAUSES are right)");
        due("a FAULT behind six", tell(x, "k300;m20;w200;g80;h90;c10;t2"), 427);
        due("RULES behind it", rulesOf(x), 50, 1, 100, 5, 95, 12, 1);
    }

    private static void faultPlaces() {
        String[] before = {"", "m1;", "k240;m18;", "k0240;m0018;w0100;", "t0;t1;t0;t1;t0;t1;t0;t1;t0;t1;"};
        for (String text : before) {
            int at = text.length();
            says("1 no such letter there (the end, too)");
            due(text + "the end", tell(new JumpHill(), text), 100 + at);
            due(text + "x", tell(new JumpHill(), text + "x240"), 100 + at);
            due(text + ";", tell(new JumpHill(), text + ";m1"), 100 + at);
            due(text + "5", tell(new JumpHill(), text + "5"), 100 + at);
            says("2 no digit there");
            due(text + "k and the end", tell(new JumpHill(), text + "k"), 201 + at);
            due(text + "k;", tell(new JumpHill(), text + "k;m1"), 201 + at);
            due(text + "km", tell(new JumpHill(), text + "km1"), 201 + at);
            due(text + "k-", tell(new JumpHill(), text + "k-20"), 201 + at);
            says("3 a fifth digit, at it");
            due(text + "k00240", tell(new JumpHill(), text + "k00240"), 305 + at);
            due(text + "k002400;", tell(new JumpHill(), text + "k002400;"), 305 + at);
            says("4 a number that it can't be, at its first digit (asked when its digits end)");
            due(text + "k19", tell(new JumpHill(), text + "k19"), 401 + at);
            due(text + "k0019;", tell(new JumpHill(), text + "k0019;m1"), 401 + at);
            due(text + "k9999", tell(new JumpHill(), text + "k9999"), 401 + at);
            says("5 something else than ; or the end behind a CLAUSE");
            due(text + "k20m", tell(new JumpHill(), text + "k20m1"), 503 + at);
            due(text + "k0240:", tell(new JumpHill(), text + "k0240:m1"), 505 + at);
            due(text + "t1k", tell(new JumpHill(), text + "t1k"), 502 + at);
        }
    }

    private static void faultOrder() {
        says("FAULTS, the first from the left");
        String[] texts = {"x;k;k00000;k1;k20x", "k;x;k1", "k00000;x", "k1;x;k", "k20x;x", "k1x", "k00001x", "k20;k;x"};
        int[] faults = {100, 201, 305, 401, 503, 401, 305, 205};
        for (int i = 0; i < texts.length; i++) {
            due("rules of " + texts[i], tell(new JumpHill(), texts[i]), faults[i]);
        }
        says("asked when its digits end");
        due("a fifth digit is before it", tell(new JumpHill(), "m99999"), 305);
        due("four digits, and something else", tell(new JumpHill(), "m9999x"), 401);
        due("the last one that can be, and something else", tell(new JumpHill(), "m0099x"), 505);
    }

    private static void faultsAtTheEndOfTheTape() {
        String ten = "m0001;m0002;m0003;m0004;m0005;m0006;m0007;m0008;m0009;m0010;";
        String before59 = "m1;m002;m0003;m0004;m0005;m0006;m0007;m0008;m0009;m0010;m1;";
        String before58 = "k240;m18;w100;g70;h95;c12;t1;k240;m18;w100;g70;h95;c12;t1;";
        due("texts of 60, 59 and 58", new int[] {ten.length(), before59.length(), before58.length()}, 60, 59, 58);
        says("1 no such letter there (the end, too): the last places of a full tape");
        due("a ; at 59 and the end", tell(new JumpHill(), ten), 160);
        due("an x at 59", tell(new JumpHill(), before59 + "x"), 159);
        says("2 no digit there: the last places of a full tape");
        due("a letter at 59 and the end", tell(new JumpHill(), before59 + "k"), 260);
        due("a letter at 58 and a ; at 59", tell(new JumpHill(), before58 + "k;"), 259);
        says("3 a fifth digit, at it: the last place of a full tape");
        due("a fifth digit at 59", tell(new JumpHill(), ten.substring(0, 59) + "0"), 359);
        says("4 a number that it can't be: the last place of a full tape");
        due("a 2 at 59", tell(new JumpHill(), before58 + "t2"), 459);
        says("5 something else than ; or the end: the last place of a full tape");
        due("an x at 59", tell(new JumpHill(), ten.substring(0, 59) + "x"), 559);
        says("RULES of a full tape");
        JumpHill x = new JumpHill();
        due("sixty bytes", tell(x, before58 + "m5"), 0);
        due("the last CLAUSE", x.rule(1), 5);
        due("fifty-nine of sixty", tell(x, ten.substring(0, 59)), 0);
        due("the last CLAUSE", x.rule(1), 10);
    }

    private static void signsBesideTheRightOnes() {
        says("k, m, w, g, h, c, t: no such letter");
        for (int sign = 0; sign < 256; sign++) {
            boolean isLetter = LETTERS.indexOf(sign) >= 0;
            due("sign " + sign, tell(new JumpHill(), (char) sign + "1"), isLetter ? sign == 'k' ? 401 : 0 : 100);
        }
        says("no digit there");
        for (int sign = 0; sign < 256; sign++) {
            boolean isDigit = sign >= '0' && sign <= '9';
            due("sign " + sign, tell(new JumpHill(), "m" + (char) sign), isDigit ? 0 : 201);
        }
        says("something else than ; or the end behind a CLAUSE");
        for (int sign = 0; sign < 256; sign++) {
            boolean isDigit = sign >= '0' && sign <= '9';
            due("sign " + sign, tell(new JumpHill(), "m1" + (char) sign), isDigit ? 0 : sign == ';' ? 103 : 502);
        }
    }

    private static void tape() {
        says("Twenty bytes come behind the tape: how many it has; NONE if that would be more than 60");
        JumpHill x = new JumpHill();
        due("bytes at first", x.count(6), 0);
        due("feed 1", feedText(x, "k100;m1;w2;g3;h4;c5;", ' '), 20);
        due("feed 2", feedText(x, "t0;k0200;m002;w0003;", ' '), 40);
        due("feed 3", feedText(x, "g0004;h0005;c0006;t1", ' '), 60);
        due("feed 4", feedText(x, "k600;m99;w999;g999;h", ' '), NONE);
        due("bytes", x.count(6), 60);
        due("all that was fed is there", x.rules(60), 0);
        due("RULES", rulesOf(x), 200, 2, 3, 4, 5, 6, 1);
        due("bytes", x.count(6), 0);
        due("there is room again", x.feed(0, 0, 0, 0, 0), 20);
        says("the highest of each int first");
        for (int i = 0; i < 20; i++) {
            JumpHill y = new JumpHill();
            int[] words = {0x6d31_3b6d, 0x313b_6d31, 0x3b6d_313b, 0x6d31_3b6d, 0x313b_6d31};
            words[i / 4] ^= 0x80 << 8 * (3 - i % 4);
            y.feed(words[0], words[1], words[2], words[3], words[4]);
            due("byte " + i, y.rules(20), i % 3 == 0 ? 100 + i : i % 3 == 1 ? 200 + i : 500 + i);
        }
        says("The first n bytes of the tape (empty then); NONE: it has not so many (the tape stays)");
        for (int bytes = 0; bytes <= 60; bytes += 20) {
            for (int n : new int[] {-1, LOWEST, bytes + 1, 61, HIGHEST}) {
                JumpHill y = filled(bytes);
                due("n " + n + " of " + bytes, y.rules(n), NONE);
                due("the tape after n " + n, y.count(6), bytes);
            }
            JumpHill none = filled(bytes);
            due("n 0 of " + bytes, none.rules(0), 100);
            due("the tape after n 0", none.count(6), 0);
            JumpHill all = filled(bytes);
            due("n " + bytes + " of " + bytes, all.rules(bytes), bytes == 0 ? 100 : 0);
            due("the tape after all", all.count(6), 0);
        }
        says("The first n bytes: those behind are not looked at, and are gone");
        for (char filling : new char[] {'0', ';', 'x', 'k'}) {
            JumpHill y = new JumpHill();
            feedText(y, "k30", filling);
            due("k30 before " + filling, y.rules(3), 0);
            due("k", y.rule(0), 30);
            due("the tape", y.count(6), 0);
            feedText(y, "m7", ' ');
            due("what is fed then is first", y.rules(2), 0);
            due("m", y.rule(1), 7);
        }
        says("a FAULT: (the tape is) empty then");
        JumpHill y = filled(60);
        due("a FAULT at once", y.rules(1), 201);
        due("the tape", y.count(6), 0);
        feedText(y, "m7", ' ');
        due("what is fed then is first", y.rules(2), 0);
    }

    /** A tape of so many bytes, all of them RULES. */
    private static JumpHill filled(int bytes) {
        JumpHill x = new JumpHill();
        for (int from = 0; from < bytes; from += 20) {
            feedText(x, from == 0 ? "k0240;m001;m01;m0003" : ";m004;m01;m003;m0003", ' ');
        }
        return x;
    }

    private static void peopleAndSensors() {
        says("JUMPERS 0 to 23: its number; NONE: 24 are there");
        JumpHill x = new JumpHill();
        for (int j = 0; j < 24; j++) {
            due("jumper " + j, x.jumper(j % 6), j);
        }
        for (int team = 0; team < 6; team++) {
            due("a twenty-fifth", x.jumper(team), NONE);
        }
        due("JUMPERS", x.count(0), 24);
        says("each of a TEAM (0 to 5)");
        JumpHill y = new JumpHill();
        for (int team : new int[] {-1, 6, LOWEST, HIGHEST, NONE}) {
            due("jumper of " + team, y.jumper(team), NONE);
        }
        due("TEAM 0", y.jumper(0), 0);
        due("TEAM 5", y.jumper(5), 1);
        due("TEAMS", toldOf(y, 3), 0, 5);
        says("SENSORS of wind 0 to 4, each with a weight (0 to 9; 1 at first)");
        for (int s = 0; s < 5; s++) {
            due("weight of " + s, y.count(10 + s), 1);
            due("weight 9 of " + s, y.sensor(s, 9), true);
            due("weight of " + s, y.count(10 + s), 9);
            due("weight 10 of " + s, y.sensor(s, 10), false);
            due("weight -1 of " + s, y.sensor(s, -1), false);
            due("weight of " + s, y.count(10 + s), 9);
            due("weight 0 of " + s, y.sensor(s, 0), true);
            due("weight of " + s, y.count(10 + s), 0);
        }
        for (int s : new int[] {-1, 5, 10, LOWEST, HIGHEST, NONE}) {
            due("sensor " + s, y.sensor(s, 1), false);
        }
        for (int weight : new int[] {LOWEST, HIGHEST, NONE}) {
            due("weight " + weight, y.sensor(0, weight), false);
        }
        says("BASE is a gate (1 to 50; 20 at first)");
        due("BASE at first", y.count(3), 20);
        for (int gate : new int[] {0, 51, -1, LOWEST, HIGHEST, NONE}) {
            due("base " + gate, y.base(gate), false);
            due("BASE", y.count(3), 20);
        }
        for (int gate : new int[] {1, 50, 2, 49}) {
            due("base " + gate, y.base(gate), true);
            due("BASE", y.count(3), gate);
        }
    }

    private static void boundsOfReading() {
        says("a JUMPER and a ROUND: NONE: no such JUMPER, ROUND");
        JumpHill x = hill(3);
        for (int j : new int[] {-1, 3, 23, 24, 32, LOWEST, HIGHEST, NONE}) {
            due("reading of " + j, x.reading(j, 0, 240, 20, false), NONE);
        }
        for (int round : new int[] {-1, 2, LOWEST, HIGHEST, NONE}) {
            due("reading in " + round, x.reading(0, round, 240, 20, false), NONE);
        }
        due("JUMPER 0, ROUND 0", x.reading(0, 0, 240, 20, false), 0);
        due("JUMPER 2, ROUND 1", x.reading(2, 1, 240, 20, false), 1);
        says("LENGTH (0 to 600 half metres)");
        for (int length : new int[] {-1, 601, LOWEST, HIGHEST, NONE}) {
            due("LENGTH " + length, x.reading(0, 0, length, 20, false), NONE);
        }
        for (int length : new int[] {0, 1, 599, 600}) {
            x.reading(0, 0, length, 20, false);
            due("LENGTH " + length, part(x, 0, 0, 1), 1200 + 18 * (length - 240));
        }
        says("gate (1 to 50)");
        for (int gate : new int[] {-1, 0, 51, LOWEST, HIGHEST, NONE}) {
            due("gate " + gate, x.reading(0, 0, 240, gate, false), NONE);
            due("gate " + gate + " of the COACH", x.reading(0, 0, 240, gate, true), NONE);
        }
        for (int gate : new int[] {1, 2, 49, 50}) {
            x.reading(0, 0, 240, gate, false);
            due("gate " + gate, part(x, 0, 0, 3), 140 * (20 - gate));
        }
        due("ENTRIES", now(x), 10);
    }

    private static void boundsOfWind() {
        says("what they read (-999 to 999 hundredths of a metre a second, or NONE: it failed)");
        JumpHill x = hill(2);
        for (int s = 0; s < 5; s++) {
            for (int read : new int[] {-1000, 1000, -9999, -10001, 10000, LOWEST, HIGHEST}) {
                int[] w = {0, 0, 0, 0, 0};
                w[s] = read;
                due("SENSOR " + s + " " + read, x.wind(0, w[0], w[1], w[2], w[3], w[4]), NONE);
            }
        }
        due("ENTRIES", now(x), 0);
        int told = 0;
        for (int s = 0; s < 5; s++) {
            for (int read : new int[] {-999, -998, 0, 998, 999}) {
                int[] w = {NONE, NONE, NONE, NONE, NONE};
                w[s] = read;
                due("SENSOR " + s + " " + read, x.wind(0, w[0], w[1], w[2], w[3], w[4]), told++);
                due("THE MEAN of " + s + " " + read, part(x, 0, 0, 7), read);
            }
        }
        due("ENTRIES", now(x), 25);
        says("ROUND in the JUMPER's number: j + 32 for ROUND 1");
        jumpersWithRound(true);
    }

    private static void boundsOfStyle() {
        says("five marks (0 to 40 half points)");
        JumpHill x = hill(2);
        x.reading(0, 0, 240, 20, false);
        for (int i = 0; i < 5; i++) {
            for (int mark : new int[] {-1, 41, LOWEST, HIGHEST, NONE}) {
                int[] m = {20, 20, 20, 20, 20};
                m[i] = mark;
                due("mark " + i + " " + mark, x.style(0, m[0], m[1], m[2], m[3], m[4]), NONE);
            }
        }
        due("ENTRIES", now(x), 1);
        int told = 1;
        for (int i = 0; i < 5; i++) {
            for (int mark : new int[] {0, 1, 39, 40}) {
                // Two of 0 and two of 40 beside it: one of each is left with it.
                int[] m = i > 2 ? new int[] {40, 0, 40, 0, 0} : new int[] {0, 0, 0, 40, 40};
                m[i] = mark;
                due("mark " + i + " " + mark, x.style(0, m[0], m[1], m[2], m[3], m[4]), told++);
                due("STYLE of " + i + " " + mark, part(x, 0, 0, 2), 10 * (40 + mark));
            }
        }
        says("A STYLE: likewise (ROUND in the JUMPER's number)");
        jumpersWithRound(false);
    }

    /** WIND or STYLE of every number near a bound: 0 to 23 and 32 to 55 are JUMPERS if all are there. */
    private static void jumpersWithRound(boolean isWind) {
        for (int people : new int[] {0, 1, 3, 24}) {
            JumpHill x = hill(people);
            int told = 0;
            for (int j = -34; j < 100; j++) {
                boolean isThere = j >= 0 && j < people || j >= 32 && j < 32 + people;
                int got = isWind ? x.wind(j, j, j, j, j, j) : x.style(j, 20, 20, 20, 20, 20);
                due(people + " JUMPERS, j " + j, got, isThere ? told : NONE);
                told += isThere ? 1 : 0;
            }
            for (int j : new int[] {LOWEST, LOWEST + 31, LOWEST + 32, HIGHEST, HIGHEST - 31, NONE, NONE + 32}) {
                int got = isWind ? x.wind(j, 0, 0, 0, 0, 0) : x.style(j, 20, 20, 20, 20, 20);
                due(people + " JUMPERS, j " + j, got, NONE);
            }
            for (int j = 0; j < people && isWind; j++) {
                due("ROUND 0 of " + j, x.points(told, j, 0, 7), j);
                due("ROUND 1 of " + j, x.points(told, j, 1, 7), j + 32);
            }
        }
    }

    private static void strikes() {
        says("STRUCK, or not any more: NONE, too, if it is so (as known now)");
        JumpHill x = hill(24);
        int told = 0;
        for (int j = 0; j < 24; j += 23) {
            for (int round = 0; round < 2; round++) {
                due("not STRUCK", x.strike(j, round, false), NONE);
                due("STRUCK", x.strike(j, round, true), told++);
                due("STRUCK again", x.strike(j, round, true), NONE);
                due("not any more", x.strike(j, round, false), told++);
                due("not any more again", x.strike(j, round, false), NONE);
                due("STRUCK once more", x.strike(j, round, true), told++);
            }
        }
        due("ENTRIES", now(x), told);
        says("NONE: no such JUMPER, ROUND (of strike)");
        JumpHill y = hill(3);
        for (int j : new int[] {-1, 3, 23, 24, 32, LOWEST, HIGHEST, NONE}) {
            due("strike of " + j, y.strike(j, 0, true), NONE);
            due("strike of " + j, y.strike(j, 0, false), NONE);
        }
        for (int round : new int[] {-1, 2, LOWEST, HIGHEST, NONE}) {
            due("strike in " + round, y.strike(0, round, true), NONE);
            due("strike in " + round, y.strike(0, round, false), NONE);
        }
        due("ENTRIES", now(y), 0);
        says("as known now (after the contest is CLOSED nothing is known)");
        y.reading(0, 0, 240, 20, false);
        y.strike(1, 0, true);
        y.close();
        due("not STRUCK any more", y.strike(1, 0, false), NONE);
        due("STRUCK", y.strike(1, 0, true), 0);
    }

    private static void twoHundred() {
        says("ENTRIES, 200 at most: NONE: 200 are there");
        for (int last = 0; last < 5; last++) {
            JumpHill x = hill(2);
            for (int n = 0; n < 199; n++) {
                due("READING", x.reading(0, 0, n, 20, false), n);
            }
            due("the two hundredth of sort " + last, entryOf(x, last), 199);
            due("ENTRIES", now(x), 200);
            for (int sort = 0; sort < 5; sort++) {
                due("one more of sort " + sort, entryOf(x, sort), NONE);
            }
            due("ENTRIES", now(x), 200);
            due("by KNOWING 200", x.points(200, 0, 0, 1), 1200 + 18 * ((last == 0 ? 600 : 198) - 240));
            due("by KNOWING 199", x.points(199, 0, 0, 1), 1200 + 18 * (198 - 240));
            due("by KNOWING 201", x.points(201, 0, 0, 1), NONE);
            x.close();
            due("a CLOSED contest makes room", x.reading(0, 0, 1, 20, false), 0);
        }
    }

    private static int entryOf(JumpHill x, int sort) {
        switch (sort) {
            case 0:
                return x.reading(0, 0, 600, 20, false);
            case 1:
                return x.wind(0, 1, 1, 1, 1, 1);
            case 2:
                return x.style(33, 1, 1, 1, 1, 1);
            case 3:
                return x.strike(1, 1, true);
            default:
                return x.count(1) < 200 ? x.strike(1, 1, true) : x.strike(1, 1, false);
        }
    }

    private static void lastKnown() {
        says("Of one JUMPER, ROUND and sort (3 and 4 are one) the last known one counts");
        JumpHill x = hill(2);
        x.reading(0, 0, 240, 20, false);
        x.reading(0, 0, 250, 20, false);
        x.reading(1, 0, 260, 20, false);
        x.reading(0, 1, 270, 20, false);
        due("READING by 1", x.points(1, 0, 0, 1), 1200);
        due("READING by 2", x.points(2, 0, 0, 1), 1380);
        due("READING by 4", x.points(4, 0, 0, 1), 1380);
        x.strike(0, 0, true);
        x.strike(0, 0, false);
        due("STRUCK by 4", x.points(4, 0, 0, 0), 1380);
        due("STRUCK by 5", x.points(5, 0, 0, 0), NONE);
        due("STRUCK by 6", x.points(6, 0, 0, 0), 1380);
        x.wind(0, 10, 10, 10, 10, 10);
        x.wind(0, NONE, NONE, NONE, NONE, NONE);
        due("WIND by 6", x.points(6, 0, 0, 7), 0);
        due("WIND by 7", x.points(7, 0, 0, 7), 10);
        due("WIND by 8: all failed", x.points(8, 0, 0, 7), 0);
        x.style(0, 10, 10, 10, 10, 10);
        x.style(0, 0, 0, 0, 0, 0);
        due("STYLE by 8", x.points(8, 0, 0, 2), 0);
        due("STYLE by 9", x.points(9, 0, 0, 2), 300);
        due("STYLE by 10", x.points(10, 0, 0, 2), 0);
        says("a KNOWING e has the first e of them");
        due("READING by 0", x.points(0, 0, 0, 0), NONE);
        due("READING by 0", x.points(0, 0, 0, 7), 0);
        JumpHill style = hill(1);
        style.style(0, 30, 30, 30, 30, 30);
        style.reading(0, 0, 240, 20, false);
        due("STYLE is the first", style.points(2, 0, 0, 2), 900);
        due("STYLE alone", style.points(1, 0, 0, 2), NONE);
        due("THE RECORD with it", style.record(0), 240);
        JumpHill wind = hill(1);
        wind.wind(0, 30, 30, 30, 30, 30);
        due("WIND is the first", wind.points(1, 0, 0, 7), 30);
        due("WIND by nothing", wind.points(0, 0, 0, 7), 0);
        JumpHill struck = hill(1);
        struck.strike(0, 0, true);
        struck.reading(0, 0, 240, 20, false);
        due("STRUCK is the first", struck.points(2, 0, 0, 0), NONE);
    }

    private static void partOfLength() {
        says("LENGTH: 1200 and m for each half metre above THE POINT (less m for each below it)");
        JumpHill x = jumped("k200;m13", 200, 201, 199, 600, 0);
        int[] want = {1200, 1213, 1187, 1200 + 13 * 400, 1200 - 13 * 200};
        for (int j = 0; j < 5; j++) {
            due("LENGTH part of " + j, part(x, j, 0, 1), want[j]);
        }
        tell(x, "k200;m0");
        for (int j = 0; j < 5; j++) {
            due("m 0 of " + j, part(x, j, 0, 1), 1200);
        }
        tell(x, "k20;m99");
        due("the greatest", part(x, 3, 0, 1), 1200 + 99 * 580);
        tell(x, "k600;m99");
        due("the least", part(x, 4, 0, 1), 1200 - 99 * 600);
    }

    private static void partOfStyle() {
        int[][] marks = {{0, 0, 0, 0, 0}, {40, 40, 40, 40, 40}, {7, 7, 7, 7, 7}, {0, 40, 0, 40, 0}, {40, 40, 40, 40, 0},
            {0, 0, 0, 0, 40}, {1, 2, 3, 4, 5}, {5, 4, 3, 2, 1}, {3, 1, 5, 2, 4}, {2, 2, 1, 1, 1}, {40, 0, 20, 0, 40}};
        int[] want = {0, 1200, 210, 400, 1200, 0, 90, 90, 90, 40, 600};
        JumpHill x = hill(1);
        x.reading(0, 0, 240, 20, false);
        says("without STYLE 0");
        due("STYLE", part(x, 0, 0, 2), 0);
        says("STYLE: without the greatest and the least mark (one of each) the sum of the others times 10");
        for (int i = 0; i < marks.length; i++) {
            int[] m = marks[i];
            x.style(0, m[0], m[1], m[2], m[3], m[4]);
            due("STYLE of " + Arrays.toString(m), part(x, 0, 0, 2), want[i]);
        }
    }

    private static void partOfGate() {
        says("GATE: 2 g for each gate that it is below BASE (less for each above)");
        JumpHill x = hill(5);
        int[] gates = {20, 19, 21, 1, 50};
        int[] want = {0, 14, -14, 266, -420};
        tell(x, "g7");
        for (int j = 0; j < 5; j++) {
            x.reading(j, 0, 240, gates[j], false);
            due("gate " + gates[j], part(x, j, 0, 3), want[j]);
        }
        x.base(1);
        due("gate 1 at BASE 1", part(x, 3, 0, 3), 0);
        due("gate 50 at BASE 1", part(x, 4, 0, 3), -14 * 49);
        x.base(50);
        due("gate 1 at BASE 50", part(x, 3, 0, 3), 14 * 49);
        due("gate 50 at BASE 50", part(x, 4, 0, 3), 0);
        tell(x, "g0");
        due("g 0", part(x, 3, 0, 3), 0);
        tell(x, "g999");
        due("g 999", part(x, 3, 0, 3), 2 * 999 * 49);
        x.base(1);
        due("g 999 above", part(x, 4, 0, 3), -2 * 999 * 49);
    }

    private static void coachAtH() {
        says("if the COACH lowered it, and 100 LENGTH is below h times THE POINT, 0");
        int[] points = {200, 240, 300, 301, 199, 20, 600, 600};
        int[] hs = {95, 95, 200, 200, 50, 0, 100, 1};
        // The least LENGTH whose GATE counts: 601 if there is none.
        int[] least = {190, 228, 600, 601, 100, 0, 600, 6};
        for (int i = 0; i < points.length; i++) {
            JumpHill x = hill(1);
            tell(x, "k" + points[i] + ";h" + hs[i] + ";g10");
            for (int length = Math.max(0, least[i] - 2); length <= Math.min(600, least[i] + 1); length++) {
                x.reading(0, 0, length, 15, true);
                due("k " + points[i] + ", h " + hs[i] + ", LENGTH " + length, part(x, 0, 0, 3),
                    length >= least[i] ? 100 : 0);
                x.reading(0, 0, length, 15, false);
                due("LENGTH " + length + " without COACH", part(x, 0, 0, 3), 100);
            }
        }
    }

    private static void mean() {
        says("to the nearest whole (halves away from 0)");
        int[][] weights = {{1, 1, 0, 0, 0}, {1, 3, 0, 0, 0}, {1, 2, 0, 0, 0}, {9, 9, 9, 9, 9}, {1, 1, 1, 1, 1},
            {0, 0, 0, 0, 8}};
        int[][] reads = {{1, 0, 0, 0, 0}, {2, 0, 0, 0, 0}, {1, 0, 0, 0, 0}, {999, 999, 999, 999, 998}, {1, 1, 0, 0, 0},
            {0, 0, 0, 0, 7}};
        int[] want = {1, 1, 0, 999, 0, 7};
        for (int i = 0; i < weights.length; i++) {
            JumpHill x = hill(2);
            int[] w = reads[i];
            for (int s = 0; s < 5; s++) {
                x.sensor(s, weights[i][s]);
            }
            x.wind(0, w[0], w[1], w[2], w[3], w[4]);
            x.wind(1, -w[0], -w[1], -w[2], -w[3], -w[4]);
            due("THE MEAN " + i, part(x, 0, 0, 7), want[i]);
            due("THE MEAN below 0 " + i, part(x, 1, 0, 7), -want[i]);
        }
        JumpHill x = hill(1);
        int[] quarters = {0, 0, 1, 1, 1, 1, 2, 2, 2, 2, 3, 3, 3};
        for (int sum = 0; sum < 13; sum++) {
            x.wind(0, sum, 0, 0, 0, NONE);
            due("fourths " + sum, part(x, 0, 0, 7), quarters[sum]);
            x.wind(0, NONE, 0, 0, 0, -sum);
            due("fourths -" + sum, part(x, 0, 0, 7), -quarters[sum]);
        }
        int[] fifths = {0, 0, 0, 1, 1, 1, 1, 1, 2};
        for (int sum = 0; sum < 9; sum++) {
            x.wind(0, 0, 0, sum, 0, 0);
            due("fifths " + sum, part(x, 0, 0, 7), fifths[sum]);
            x.wind(0, 0, -sum, 0, 0, 0);
            due("fifths -" + sum, part(x, 0, 0, 7), -fifths[sum]);
        }
    }

    private static void meanWithoutWeight() {
        says("without WIND, or if that sum is 0: 0");
        JumpHill x = hill(1);
        x.reading(0, 0, 240, 20, false);
        due("without WIND", part(x, 0, 0, 7), 0);
        due("without WIND, points", part(x, 0, 0, 4), 0);
        x.wind(0, NONE, NONE, NONE, NONE, NONE);
        due("all failed", part(x, 0, 0, 7), 0);
        due("all failed, points", part(x, 0, 0, 4), 0);
        x.wind(0, 500, NONE, NONE, NONE, 100);
        due("two that did not fail", part(x, 0, 0, 7), 300);
        x.sensor(0, 0);
        due("one of them without weight", part(x, 0, 0, 7), 100);
        x.sensor(4, 0);
        due("both without weight", part(x, 0, 0, 7), 0);
        due("both without weight, points", part(x, 0, 0, 4), 0);
        due("both without weight, all", part(x, 0, 0, 0), 1200);
        x.sensor(1, 9);
        due("the weight of one that failed is not in the sum", part(x, 0, 0, 7), 0);
        x.sensor(4, 1);
        due("the least weight", part(x, 0, 0, 7), 100);
        x.sensor(0, 9);
        due("the greatest weight", part(x, 0, 0, 7), 460);
    }

    private static void partOfWind() {
        says("Points: less 2 times (THE MEAN times w / 100, to the nearest whole, halves away from 0)");
        int[] means = {1, 1, 1, 3, 3, 5, 149, 150, 151, 250, 999, 999, 999, 1, 1, 0, 2};
        int[] ws = {49, 50, 51, 49, 50, 10, 1, 1, 1, 1, 999, 1, 0, 999, 100, 999, 25};
        int[] want = {0, 2, 2, 2, 4, 2, 2, 4, 4, 6, 19960, 20, 0, 20, 2, 0, 2};
        for (int i = 0; i < means.length; i++) {
            JumpHill x = hill(2);
            tell(x, "w" + ws[i]);
            x.reading(0, 0, 240, 20, false);
            x.reading(1, 0, 240, 20, false);
            x.wind(0, means[i], NONE, NONE, NONE, NONE);
            x.wind(1, -means[i], NONE, NONE, NONE, NONE);
            due("THE MEAN " + means[i] + ", w " + ws[i], part(x, 0, 0, 4), -want[i]);
            due("THE MEAN " + -means[i] + ", w " + ws[i], part(x, 1, 0, 4), want[i]);
        }
    }

    private static void zeroAtLeast() {
        says("All together, but 0 at least");
        // 1200 - 11 * 109 is 1, 1200 - 12 * 100 is 0, and a MEAN of 1 by w 100 takes 2.
        JumpHill x = jumped("k209;m11", 100);
        due("1", part(x, 0, 0, 0), 1);
        x.wind(0, 1, 1, 1, 1, 1);
        due("-1 is 0", part(x, 0, 0, 0), 0);
        due("-1 is still on THE LIST", listOf(x, 2), 0);
        due("-1 is 0 in TOTAL", x.told(2, 0, 1), 0);
        x.wind(0, -1, -1, -1, -1, -1);
        due("3", part(x, 0, 0, 0), 3);
        JumpHill y = jumped("k200;m12", 100);
        due("0", part(y, 0, 0, 0), 0);
        y.style(0, 0, 0, 1, 1, 1);
        due("20", part(y, 0, 0, 0), 20);
        JumpHill z = jumped("k600;m99;g999", 0);
        z.reading(0, 0, 0, 50, false);
        z.base(1);
        due("far below 0", part(z, 0, 0, 0), 0);
        z.reading(0, 1, 600, 1, false);
        due("ROUND 1 is not less for it", z.told(3, 0, 1), 1200);
    }

    private static void worthAtZero() {
        says("WORTH of WIND or GATE of a JUMP: its POINTS less those it would have with 0 for that");
        // By LENGTH, gate (BASE 20, g 50) and MEAN (w 100): the WORTH of each.
        int[] lengths = {100, 100, 100, 0, 0, 0, 0, 30, 30, 0};
        int[] gates = {20, 19, 21, 20, 18, 22, 8, 20, 20, 31};
        int[] winds = {0, 100, -100, 10, 10, -10, 900, 101, 100, -600};
        for (int i = 0; i < lengths.length; i++) {
            JumpHill x = jumped("k100;m12;g50", -1);
            x.reading(0, 0, lengths[i], gates[i], false);
            x.wind(0, winds[i], NONE, NONE, NONE, NONE);
            int length = 1200 + 12 * (lengths[i] - 100);
            int gate = 100 * (20 - gates[i]);
            int wind = -2 * winds[i];
            int all = Math.max(0, length + gate + wind);
            due("POINTS " + i, part(x, 0, 0, 0), all);
            due("WORTH of GATE " + i, part(x, 0, 0, 5), all - Math.max(0, length + wind));
            due("WORTH of WIND " + i, part(x, 0, 0, 6), all - Math.max(0, length + gate));
            x.style(0, 0, 1, 10, 9, 40);
            all = Math.max(0, length + gate + wind + 200);
            due("WORTH of GATE with STYLE " + i, part(x, 0, 0, 5), all - Math.max(0, length + wind + 200));
            due("WORTH of WIND with STYLE " + i, part(x, 0, 0, 6), all - Math.max(0, length + gate + 200));
        }
        JumpHill x = jumped("k600;m12;g50", -1);
        x.reading(0, 0, 0, 19, false);
        x.wind(0, 10, NONE, NONE, NONE, NONE);
        due("GATE worth nothing far below 0", part(x, 0, 0, 5), 0);
        due("WIND worth nothing far below 0", part(x, 0, 0, 6), 0);
        JumpHill y = jumped("k100;m12;g50", -1);
        y.reading(0, 0, 0, 19, false);
        due("all that there is is GATE's", part(y, 0, 0, 5), 100);
        y.wind(0, 50, NONE, NONE, NONE, NONE);
        due("WIND has taken all of it", part(y, 0, 0, 6), -100);
        due("GATE gives no more than 0", part(y, 0, 0, 5), 0);
        y.wind(0, 51, NONE, NONE, NONE, NONE);
        due("no more than there was", part(y, 0, 0, 6), -100);
        y.wind(0, 49, NONE, NONE, NONE, NONE);
        due("two are left", part(y, 0, 0, 6), -98);
        due("two are left of GATE", part(y, 0, 0, 5), 2);
    }

    private static void noPoints() {
        says("A STRUCK JUMP, or one without READING, has none");
        JumpHill x = hill(3);
        x.reading(0, 0, 240, 20, false);
        x.strike(0, 0, true);
        x.style(1, 30, 30, 30, 30, 30);
        x.wind(1, 70, 70, 70, 70, 70);
        x.wind(0, 80, 80, 80, 80, 80);
        for (int what = 0; what < 7; what++) {
            due("STRUCK, what " + what, part(x, 0, 0, what), NONE);
            due("without READING, what " + what, part(x, 1, 0, what), NONE);
            due("without anything, what " + what, part(x, 2, 1, what), NONE);
        }
        says("NONE: (of 7: no such ones)");
        due("THE MEAN of one STRUCK", part(x, 0, 0, 7), 80);
        due("THE MEAN of one without READING", part(x, 1, 0, 7), 70);
        due("THE MEAN without anything", part(x, 2, 1, 7), 0);
        says("1, 3, 4 can be that number, too");
        JumpHill y = jumped("k370;m40", 90);
        due("LENGTH of -10000", part(y, 0, 0, 1), NONE);
        due("all of it is 0", part(y, 0, 0, 0), 0);
        JumpHill z = hill(1);
        tell(z, "g250;w625");
        z.reading(0, 0, 240, 40, false);
        z.wind(0, 800, 800, 800, 800, 800);
        due("GATE of -10000", part(z, 0, 0, 3), NONE);
        due("WIND of -10000", part(z, 0, 0, 4), NONE);
        due("all of it is 0", part(z, 0, 0, 0), 0);
    }

    private static void through() {
        says("JUMPERS with POINTS in ROUND 0, by these, of like ones by numbers: the first c");
        int[] lengths = new int[24];
        for (int j = 0; j < 24; j++) {
            lengths[j] = 300 - j;
        }
        for (int c = 1; c <= 24; c++) {
            for (int t = 0; t < 2; t++) {
                JumpHill x = jumped("c" + c + ";t" + t, lengths);
                due("THROUGH by c " + c + ", t " + t, x.count(5), c);
                due("the last one by c " + c, x.told(24, c - 1, 0), 1);
                due("the next one by c " + c, c < 24 ? x.told(24, c, 0) : 0, 0);
            }
        }
        for (int c = 1; c <= 4; c++) {
            JumpHill x = jumped("c" + c + ";t0", 240, 250, 240, -1, 250);
            int[][] want = {{0, 1, 0, 0, 0}, {0, 1, 0, 0, 1}, {1, 1, 0, 0, 1}, {1, 1, 1, 0, 1}};
            due("THROUGH of like ones by c " + c, toldOf(x, 0), want[c - 1]);
        }
        JumpHill few = jumped("c3;t0", 240, -1, 250, -1);
        due("fewer than c", toldOf(few, 0), 1, 0, 1, 0);
        few.reading(1, 1, 300, 20, false);
        due("POINTS in ROUND 1 alone", toldOf(few, 0), 1, 0, 1, 0);
        few.reading(1, 0, 100, 20, false);
        due("exactly c", toldOf(few, 0), 1, 1, 1, 0);
        few.strike(2, 0, true);
        due("one STRUCK", toldOf(few, 0), 1, 1, 0, 0);
        JumpHill zero = jumped("k600;m99;c2", 0, 0, 0);
        due("0 are POINTS, too", toldOf(zero, 0), 1, 1, 1);
    }

    private static void throughAlike() {
        says("with t 1 all that have as many as the last of these");
        due("like the last one", toldOf(jumped("c2;t1", 250, 240, 240, 239, 240), 0), 1, 1, 1, 0, 1);
        due("t 0", toldOf(jumped("c2;t0", 250, 240, 240, 239, 240), 0), 1, 1, 0, 0, 0);
        due("a twentieth less", toldOf(jumped("m1;c2;t1", 250, 240, 239), 0), 1, 1, 0);
        due("like ones before the last", toldOf(jumped("c2;t1", 250, 250, 240, 240), 0), 1, 1, 0, 0);
        due("all alike, c 1", toldOf(jumped("c1;t1", 250, 250, 250), 0), 1, 1, 1);
        due("all alike, c 1, t 0", toldOf(jumped("c1;t0", 250, 250, 250), 0), 1, 0, 0);
        due("all alike, c 24", toldOf(jumped("c24;t1", 250, 250, 250), 0), 1, 1, 1);
        int[] alike = new int[24];
        Arrays.fill(alike, 250);
        due("24 alike, c 1", jumped("c1;t1", alike).count(5), 24);
        due("24 alike, c 23, t 0", jumped("c23;t0", alike).count(5), 23);
        due("24 alike, c 24, t 0", jumped("c24;t0", alike).count(5), 24);
        says("what it is: POINTS, not LENGTH");
        JumpHill x = jumped("k240;m1;g1;c1;t1", 240, 238);
        due("by LENGTH", toldOf(x, 0), 1, 0);
        x.reading(1, 0, 238, 19, false);
        due("by like POINTS", toldOf(x, 0), 1, 1);
        x.reading(1, 0, 238, 18, false);
        due("by POINTS", toldOf(x, 0), 0, 1);
    }

    private static void totals() {
        says("THE TOTAL: POINTS of ROUND 0, and, if it is THROUGH, those of ROUND 1 (0 without)");
        JumpHill x = jumped("k240;m10;c2;t0", 260, 250, 250, -1);
        for (int j = 0; j < 4; j++) {
            x.reading(j, 1, 240 + j, 20, false);
        }
        due("TOTALS", toldOf(x, 1), 1400 + 1200, 1300 + 1210, 1300, NONE);
        due("PLACES", toldOf(x, 2), 1, 2, 3, NONE);
        x.strike(1, 1, true);
        due("ROUND 1 STRUCK", toldOf(x, 1), 2600, 1300, 1300, NONE);
        x.strike(0, 0, true);
        due("who is THROUGH then", toldOf(x, 1), NONE, 1300, 1300 + 1220, NONE);
        x.strike(1, 0, true);
        x.strike(2, 0, true);
        due("nobody is on THE LIST", toldOf(x, 1), NONE, NONE, NONE, NONE);
    }

    private static void places() {
        says("A PLACE is one more than how many of THE LIST are before: a greater TOTAL; who share it");
        due("two first", toldOf(jumped("c24", 250, 250, 240, 240, 240, 230), 2), 1, 1, 3, 3, 3, 6);
        due("all alike", toldOf(jumped("c24", 250, 250, 250), 2), 1, 1, 1);
        due("one alone", toldOf(jumped("c24", -1, 0, -1), 2), NONE, 1, NONE);
        due("a twentieth", toldOf(jumped("m1", 250, 249, 250), 2), 1, 3, 1);
        says("THROUGH when it is not");
        JumpHill x = jumped("c1;t0", 250, 250, 250, 240, 240);
        due("a like TOTAL, but not THROUGH", toldOf(x, 2), 1, 2, 2, 4, 4);
        tell(x, "c1;t1");
        due("all like it THROUGH", toldOf(x, 2), 1, 1, 1, 4, 4);
        says("THE LIST: those that are THROUGH first, by TOTALS, then the others by theirs; of like ones by numbers");
        JumpHill y = jumped("k240;m10;c3;t0", 240, 250, 240, 260, 240, 250, -1, 239);
        due("THE LIST", listOf(y, 7), 3, 1, 5, 0, 2, 4, 7);
        y.reading(5, 1, 240, 20, false);
        y.reading(1, 1, 240, 20, false);
        due("of like ones by numbers", listOf(y, 9), 1, 5, 3, 0, 2, 4, 7);
        due("their PLACES", toldOf(y, 2), 4, 1, 4, 3, 4, 1, NONE, 7);
        due("the last one", y.list(9, 6), 7);
        due("behind the last one", y.list(9, 7), NONE);
    }

    private static void startOrder() {
        says("START in ROUND 0 is by numbers");
        JumpHill x = jumped("k240;m10;c3;t1", 250, 240, 260, 250, 240, -1);
        due("START 0", startOf(x, 5, 0), 0, 1, 2, 3, 4, 5);
        due("START 0 by nothing", startOf(x, 0, 0), 0, 1, 2, 3, 4, 5);
        says("in ROUND 1 those that are THROUGH, by POINTS of ROUND 0, the fewest first, of like ones the greater number"
            + " first");
        due("START 1", startOf(x, 5, 1), 3, 0, 2);
        tell(x, "k240;m10;c4;t1");
        due("START 1 with the like ones", startOf(x, 5, 1), 4, 1, 3, 0, 2);
        tell(x, "k240;m10;c4;t0");
        due("START 1 without them", startOf(x, 5, 1), 1, 3, 0, 2);
        tell(x, "k600;m99;c24");
        due("START 1 of all with 0", startOf(x, 5, 1), 4, 3, 2, 1, 0);
        due("START 1 by nothing", startOf(x, 0, 1));
        due("START 1 by one", startOf(x, 1, 1), 0);
    }

    private static void teams() {
        says("A TEAM's TOTAL: those of its four best JUMPERS of THE LIST (by TOTALS; all, if there are fewer)");
        int[] lengths = {241, 245, 242, 244, 243, 246};
        int[] want = {1210, 2460, 3680, 4920, 4940, 4980};
        JumpHill x = new JumpHill();
        tell(x, "k240;m10");
        due("without JUMPERS", x.team(0, 3), NONE);
        for (int j = 0; j < 6; j++) {
            x.jumper(3);
            due("without READING", x.team(j, 3), j == 0 ? NONE : want[j - 1]);
            x.reading(j, 0, lengths[j], 20, false);
            due("of " + (j + 1), x.team(j + 1, 3), want[j]);
            due("another TEAM", x.team(j + 1, 2), NONE);
        }
        x.strike(5, 0, true);
        x.strike(1, 0, true);
        due("two STRUCK", x.team(8, 3), 4 * 1200 + 100);
        x.strike(3, 0, true);
        due("three STRUCK", x.team(9, 3), 3 * 1200 + 60);
        says("NONE: no such ones, none of it is on THE LIST");
        for (int j = 0; j < 5; j += 2) {
            x.strike(j, 0, true);
        }
        due("all STRUCK", x.team(12, 3), NONE);
        due("as it was known", x.team(11, 3), 1230);
        for (int t : new int[] {-1, 6, LOWEST, HIGHEST, NONE}) {
            due("TEAM " + t, x.team(11, t), NONE);
        }
        says("of THE LIST (by TOTALS): 0 is a TOTAL");
        JumpHill y = jumped("k600;m99", 0, -1, -1, -1, -1, 0);
        due("TEAM 0", y.team(2, 0), 0);
        due("TEAM 5", y.team(2, 5), 0);
        due("TEAM 4", y.team(2, 4), NONE);
        says("its four best, though others have a fifth that is like the fourth");
        JumpHill z = new JumpHill();
        tell(z, "k240;m10;c2;t0");
        for (int j = 0; j < 7; j++) {
            z.jumper(0);
            z.reading(j, 0, 250, 20, false);
        }
        z.reading(0, 1, 240, 20, false);
        z.reading(6, 1, 240, 20, false);
        due("four of seven alike", z.team(9, 0), 4 * 1300 + 1200);
    }

    private static void recordMarks() {
        says("a JUMP that has POINTS and STYLE marks none of which is below 20");
        for (int i = 0; i < 5; i++) {
            int[] m = {20, 20, 20, 20, 20};
            JumpHill x = hill(1);
            x.reading(0, 0, 250, 20, false);
            x.style(0, m[0], m[1], m[2], m[3], m[4]);
            due("all 20", x.record(0), 250);
            m[i] = 19;
            x.style(0, m[0], m[1], m[2], m[3], m[4]);
            due("mark " + i + " of 19", x.record(0), NONE);
            due("mark " + i + " of 19, JUMPER", x.record(1), NONE);
            m[i] = 21;
            x.style(0, m[0], m[1], m[2], m[3], m[4]);
            due("mark " + i + " of 21", x.record(0), 250);
            x.strike(0, 0, true);
            due("STRUCK", x.record(0), NONE);
        }
        JumpHill x = hill(1);
        due("without READING and STYLE", x.record(0), NONE);
        x.style(0, 20, 20, 20, 20, 20);
        due("without READING", x.record(0), NONE);
        x.reading(0, 1, 250, 20, false);
        due("STYLE of the other ROUND", x.record(0), NONE);
        x.reading(0, 0, 0, 20, false);
        due("LENGTH 0", x.record(0), 0);
        x.reading(0, 0, 600, 20, false);
        due("LENGTH 600", x.record(0), 600);
        says("record: what 0 LENGTH, 1 JUMPER");
        for (int what : new int[] {-1, 2, LOWEST, HIGHEST, NONE}) {
            due("what " + what, x.record(what), NONE);
        }
        says("POINTS that are 0 are POINTS (of THE RECORD)");
        JumpHill zero = jumped("k600;m99", 100);
        zero.style(0, 20, 20, 20, 20, 20);
        due("POINTS", part(zero, 0, 0, 0), 0);
        due("LENGTH", zero.record(0), 100);
    }

    private static void recordAlike() {
        says("THE RECORD: of like ones the JUMP whose READING was told first");
        int[][] orders = {{0, 1, 2}, {2, 1, 0}, {1, 2, 0}, {1, 0, 2}};
        for (int[] order : orders) {
            JumpHill x = hill(3);
            for (int j = 2; j >= 0; j--) {
                x.style(j, 20, 20, 20, 20, 20);
                x.style(32 + j, 20, 20, 20, 20, 20);
            }
            x.reading(order[0], 0, 249, 20, false);
            due("one", x.record(1), order[0]);
            x.reading(order[1], 1, 250, 20, false);
            due("a half metre more", x.record(1), order[1]);
            x.reading(order[2], 0, 250, 20, false);
            due("one like it", x.record(1), order[1]);
            x.strike(order[1], 1, true);
            due("the first one STRUCK", x.record(1), order[2]);
            x.strike(order[1], 1, false);
            due("not any more", x.record(1), order[1]);
            x.reading(order[0], 0, 251, 20, false);
            due("a half metre more by one that was told first", x.record(1), order[0]);
        }
        for (int first = 0; first < 4; first++) {
            for (int second = 0; second < 4; second++) {
                if (first / 2 != second / 2) {
                    JumpHill x = hill(2);
                    for (int jump = 0; jump < 4; jump++) {
                        x.style(jump / 2 + 32 * (jump % 2), 20, 20, 20, 20, 20);
                    }
                    x.reading(first / 2, first % 2, 250, 20, false);
                    x.reading(second / 2, second % 2, 250, 20, false);
                    due("the first of like ones in any ROUNDS", x.record(1), first / 2);
                }
            }
        }
        JumpHill both = hill(2);
        both.style(0, 20, 20, 20, 20, 20);
        both.style(32, 20, 20, 20, 20, 20);
        both.reading(0, 1, 250, 20, false);
        both.reading(0, 0, 250, 20, false);
        due("both of one JUMPER", both.record(1), 0);
        due("both of one JUMPER, LENGTH", both.record(0), 250);
    }

    private static JumpHill withRecord(int length) {
        JumpHill x = hill(3);
        x.reading(1, 0, length, 20, false);
        x.style(1, 20, 20, 20, 20, 20);
        x.close();
        return x;
    }

    private static void recordOfClosed() {
        says("One of a CLOSED contest is before one as great of this");
        int[] closedOnes = {0, 250, 600};
        for (int length : closedOnes) {
            JumpHill x = withRecord(length);
            due("LENGTH " + length, x.record(0), length);
            due("JUMPER", x.record(1), 1);
            x.style(0, 20, 20, 20, 20, 20);
            x.reading(0, 0, Math.max(0, length - 1), 20, false);
            due("a half metre less", x.record(1), 1);
            x.reading(0, 0, length, 20, false);
            due("as great", x.record(1), 1);
            if (length < 600) {
                x.reading(0, 0, length + 1, 20, false);
                due("a half metre more", x.record(1), 0);
                due("its LENGTH", x.record(0), length + 1);
            }
        }
        says("THE RECORD of the hill stays, if none is greater");
        for (int length = 249; length <= 251; length++) {
            JumpHill x = withRecord(250);
            x.style(2, 20, 20, 20, 20, 20);
            x.reading(2, 0, length, 20, false);
            x.close();
            due("LENGTH after " + length, x.record(0), Math.max(250, length));
            due("JUMPER after " + length, x.record(1), length > 250 ? 2 : 1);
            due("after nothing more", x.close(), NONE);
            due("LENGTH then", x.record(0), Math.max(250, length));
        }
        JumpHill x = hill(1);
        x.reading(0, 0, 250, 20, false);
        x.close();
        due("a CLOSED contest without one", x.record(0), NONE);
        due("and its JUMPER", x.record(1), NONE);
    }

    private static void closed() {
        says("each of THE LIST gets for its PLACE (who share it, each) of the row");
        int[] row = {100, 80, 60, 50, 45, 40, 36, 32, 29, 26, 24, 22, 20, 18, 16, 15, 14, 13, 12, 11, 10, 9, 8, 7};
        int[] lengths = new int[24];
        for (int j = 0; j < 24; j++) {
            lengths[j] = 400 - j;
        }
        JumpHill x = jumped("c3;t0", lengths);
        due("all are on THE LIST", x.close(), 24);
        due("SEASON points", toldOf(x, 4), row);
        Arrays.fill(lengths, 300);
        for (int alike = 2; alike <= 24; alike += 11) {
            JumpHill y = jumped("c24", Arrays.copyOf(lengths, alike));
            due(alike + " alike", y.close(), alike);
            due("who share it, each", y.told(0, alike - 1, 4), 100);
        }
        JumpHill y = jumped("c24", 250, 250, 240, -1, 230, 230);
        y.close();
        due("of shared PLACES", toldOf(y, 4), 100, 100, 60, 0, 50, 50);
        y.reading(3, 0, 0, 20, false);
        due("one", y.close(), 1);
        due("one more contest", toldOf(y, 4), 100, 100, 60, 100, 50, 50);
        due("CLOSED contests", y.count(2), 2);
        says("how many were on THE LIST; NONE: nobody was");
        JumpHill z = hill(2);
        due("without ENTRIES", z.close(), NONE);
        z.reading(0, 1, 250, 20, false);
        z.style(32, 20, 20, 20, 20, 20);
        due("ROUND 1 alone", z.close(), NONE);
        z.reading(0, 0, 250, 20, false);
        z.strike(0, 0, true);
        due("STRUCK", z.close(), NONE);
        due("ENTRIES stay", now(z), 4);
        due("CLOSED contests", z.count(2), 0);
        due("SEASON", toldOf(z, 4), 0, 0);
        z.strike(0, 0, false);
        due("one", z.close(), 1);
        due("SEASON", toldOf(z, 4), 100, 0);
        due("without JUMPERS", new JumpHill().close(), NONE);
    }

    private static void whatStays() {
        says("ENTRIES are gone then (THE RECORD of the hill stays, if none is greater; JUMPERS, RULES stay)");
        JumpHill x = jumped("k200;m20;w99;g60;h90;c3;t0", 250, 240, -1);
        x.style(0, 30, 30, 30, 30, 30);
        x.strike(1, 0, true);
        x.wind(2, 50, 50, 50, 50, 50);
        x.base(33);
        x.sensor(3, 4);
        feedText(x, "m5", ' ');
        due("close", x.close(), 1);
        due("ENTRIES", now(x), 0);
        due("READING", x.points(0, 0, 0, 0), NONE);
        due("KNOWING 1", x.points(1, 0, 0, 7), NONE);
        due("THE LIST", listOf(x, 0));
        due("THROUGH", x.count(5), 0);
        due("JUMPERS", x.count(0), 3);
        due("TEAMS", toldOf(x, 3), 0, 1, 2);
        due("RULES", rulesOf(x), 200, 20, 99, 60, 90, 3, 0);
        due("RECORD", x.record(0), 250);
        due("BASE", x.count(3), 33);
        due("weight", x.count(13), 4);
        due("tape", x.count(6), 20);
        x.reading(2, 0, 200, 33, false);
        due("WIND is gone", x.points(1, 2, 0, 7), 0);
        due("the first ENTRY", now(x), 1);
        x.reading(1, 0, 200, 33, false);
        due("STRUCK is gone", x.points(2, 1, 0, 0), 1200);
        x.reading(0, 0, 200, 33, false);
        due("STYLE is gone", x.points(3, 0, 0, 2), 0);
        due("the tape's bytes", x.rules(2), 0);
        due("what they told", x.rule(1), 5);
    }

    private static void empty() {
        says("a new object: no JUMPERS, no ENTRIES");
        JumpHill x = new JumpHill();
        due("reading", x.reading(0, 0, 240, 20, false), NONE);
        due("wind", x.wind(0, 0, 0, 0, 0, 0), NONE);
        due("style", x.style(0, 20, 20, 20, 20, 20), NONE);
        due("strike", x.strike(0, 0, true), NONE);
        for (int what = 0; what < 8; what++) {
            due("points", x.points(0, 0, 0, what), NONE);
            due("told", x.told(0, 0, what), NONE);
        }
        due("list", x.list(0, 0), NONE);
        due("start", x.start(0, 0, 0), NONE);
        due("start", x.start(0, 1, 0), NONE);
        due("team", x.team(0, 0), NONE);
        due("record", x.record(0), NONE);
        due("record", x.record(1), NONE);
        due("differ", x.differ(0, 0, 0), NONE);
        due("close", x.close(), NONE);
        due("rules", x.rules(0), 100);
        due("rules", x.rules(1), NONE);
    }

    private static void knowings() {
        says("by KNOWING e: no such ones");
        JumpHill x = jumped("c24", 250, 240, 230);
        for (int e : new int[] {-1, 4, 200, 201, LOWEST, HIGHEST, NONE}) {
            for (int what = 0; what < 8; what++) {
                due("points by " + e, x.points(e, 0, 0, what), NONE);
            }
            for (int what = 0; what < 3; what++) {
                due("told by " + e, x.told(e, 0, what), NONE);
            }
            due("list by " + e, x.list(e, 0), NONE);
            due("start 0 by " + e, x.start(e, 0, 0), NONE);
            due("start 1 by " + e, x.start(e, 1, 0), NONE);
            due("team by " + e, x.team(e, 0), NONE);
            due("differ by " + e, x.differ(e, 0, 0), NONE);
            due("differ by 0 and " + e, x.differ(0, e, 0), NONE);
            due("differ by " + e + " alone", x.differ(e, e, 0), NONE);
            says("3 TEAM, 4 SEASON points (e is not looked at by both)");
            due("TEAM by " + e, x.told(e, 2, 3), 2);
            due("SEASON by " + e, x.told(e, 2, 4), 0);
            says("by KNOWING e: no such ones");
        }
        for (int e = 0; e <= 3; e++) {
            due("list by " + e, listOf(x, e), Arrays.copyOf(new int[] {0, 1, 2}, e));
            due("start 1 by " + e, x.start(e, 1, 0), e == 0 ? NONE : e - 1);
            due("points by " + e, x.points(e, 2, 0, 0), e == 3 ? 1020 : NONE);
            due("team by " + e, x.team(e, 1), e < 2 ? NONE : 1200);
            due("THROUGH by " + e, x.told(e, 0, 0), e == 0 ? 0 : 1);
        }
        says("e counts ENTRIES of this contest alone");
        x.close();
        due("list by 1", x.list(1, 0), NONE);
        due("points by 0", x.points(0, 0, 0, 7), 0);
    }

    private static void questionsOutside() {
        JumpHill x = jumped("c2;t0", 250, 240, 230);
        says("points: what 0 to 7; NONE: no such ones");
        for (int bad : new int[] {-1, 8, LOWEST, HIGHEST, NONE}) {
            due("what " + bad, x.points(3, 0, 0, bad), NONE);
        }
        for (int bad : new int[] {-1, 3, 24, 32, LOWEST, HIGHEST, NONE}) {
            due("points of JUMPER " + bad, x.points(3, bad, 0, 0), NONE);
            due("THE MEAN of JUMPER " + bad, x.points(3, bad, 0, 7), NONE);
            for (int what = 0; what < 5; what++) {
                due("told " + what + " of JUMPER " + bad, x.told(3, bad, what), NONE);
            }
        }
        for (int bad : new int[] {-1, 2, LOWEST, HIGHEST, NONE}) {
            due("points in ROUND " + bad, x.points(3, 0, bad, 0), NONE);
            due("THE MEAN in ROUND " + bad, x.points(3, 0, bad, 7), NONE);
            due("start in ROUND " + bad, x.start(3, bad, 0), NONE);
        }
        says("told: NONE for others");
        for (int bad : new int[] {-1, 5, LOWEST, HIGHEST, NONE}) {
            due("told " + bad, x.told(3, 0, bad), NONE);
        }
        says("rule: NONE for others");
        for (int bad : new int[] {-1, 7, LOWEST, HIGHEST, NONE}) {
            due("rule " + bad, x.rule(bad), NONE);
        }
        says("the i-th (from 0 on); NONE: there is none such");
        int[] third = {2, 2, NONE};
        due("list 2", x.list(3, 2), third[0]);
        due("start 0, 2", x.start(3, 0, 2), third[1]);
        due("start 1, 2", x.start(3, 1, 2), third[2]);
        due("start 1, 1", x.start(3, 1, 1), 0);
        due("start 1, 0", x.start(3, 1, 0), 1);
        for (int bad : new int[] {-1, 3, 23, 24, 25, LOWEST, HIGHEST, NONE}) {
            due("list " + bad, x.list(3, bad), NONE);
            due("start 0, " + bad, x.start(3, 0, bad), NONE);
            due("start 1, " + bad, x.start(3, 1, bad), NONE);
            due("differ " + bad, x.differ(0, 3, bad), NONE);
        }
        says("the i-th of all 24");
        int[] alike = new int[24];
        JumpHill full = jumped("c24", alike);
        for (int i = 0; i < 24; i++) {
            due("list " + i, full.list(24, i), i);
            due("start 0, " + i, full.start(24, 0, i), i);
            due("start 1, " + i, full.start(24, 1, i), 23 - i);
            due("differ " + i, full.differ(0, 24, i), i);
        }
        for (int i = 24; i < 26; i++) {
            due("list " + i, full.list(24, i), NONE);
            due("start 0, " + i, full.start(24, 0, i), NONE);
            due("start 1, " + i, full.start(24, 1, i), NONE);
            due("differ " + i, full.differ(0, 24, i), NONE);
        }
    }

    private static void differences() {
        says("whose PLACE is told otherwise by KNOWINGS e and f (or who is on THE LIST by one alone)");
        JumpHill x = jumped("c24", 250, 240, 240, 230);
        due("by the same", differOf(x, 4, 4));
        due("by nothing and nothing", differOf(x, 0, 0));
        due("on THE LIST by one alone", differOf(x, 3, 4), 3);
        due("the other way", differOf(x, 4, 3), 3);
        due("by nothing and all", differOf(x, 0, 4), 0, 1, 2, 3);
        x.reading(1, 0, 239, 20, false);
        due("a shared PLACE is one's own then", differOf(x, 4, 5), 1);
        x.reading(2, 0, 239, 20, false);
        due("both again", differOf(x, 4, 6));
        due("but not before", differOf(x, 5, 6), 1);
        x.reading(0, 0, 400, 20, false);
        due("a TOTAL alone", differOf(x, 6, 7));
        x.strike(0, 0, true);
        due("all PLACES", differOf(x, 7, 8), 0, 1, 2, 3);
        x.strike(0, 0, false);
        due("as before", differOf(x, 7, 9));
        says("THROUGH alone is no PLACE");
        JumpHill y = jumped("c1;t0", 250, 240);
        due("PLACES", toldOf(y, 2), 1, 2);
        y.reading(0, 1, 250, 20, false);
        due("ROUND 1 of the first", differOf(y, 2, 3));
    }

    private static void counts() {
        says("count: 0 JUMPERS to 6 bytes of the tape; 10 + s; NONE for others");
        JumpHill x = new JumpHill();
        int[] atFirst = {0, 0, 0, 20, 0, 0, 0, NONE, NONE, NONE, 1, 1, 1, 1, 1, NONE, NONE};
        for (int what = 0; what < atFirst.length; what++) {
            due("what " + what, x.count(what), atFirst[what]);
        }
        for (int what : new int[] {-1, -10, LOWEST, LOWEST + 10, LOWEST + 14, HIGHEST, HIGHEST - 5, NONE}) {
            due("what " + what, x.count(what), NONE);
        }
        says("4 on THE LIST now, 5 THROUGH now");
        int[] lengths = new int[24];
        JumpHill y = jumped("c1;t1", lengths);
        due("JUMPERS", y.count(0), 24);
        due("on THE LIST", y.count(4), 24);
        due("THROUGH", y.count(5), 24);
        y.strike(0, 0, true);
        due("on THE LIST", y.count(4), 23);
        due("THROUGH", y.count(5), 23);
        tell(y, "c1;t0");
        due("on THE LIST", y.count(4), 23);
        due("THROUGH", y.count(5), 1);
    }
}
