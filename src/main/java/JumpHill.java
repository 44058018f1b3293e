import java.util.Arrays;

/**
 * A jump hill: what is read of each jump is told as it comes and put right later, and every question
 * is answered as it was known behind so many entries. DOC.md tells what each call must answer.
 */
public final class JumpHill {
    public static final int NONE = -10000;

    private static final int JUMPER_LIMIT = 24;
    private static final int TEAM_LIMIT = 6;
    private static final int SENSOR_LIMIT = 5;
    private static final int ROUND_LIMIT = 2;
    private static final int JUMP_LIMIT = 48;
    private static final int ENTRY_LIMIT = 200;
    private static final int TAPE_LIMIT = 60;

    private static final int GREATEST_WEIGHT = 9;
    private static final int GREATEST_GATE = 50;
    private static final int GREATEST_LENGTH = 600;
    private static final int GREATEST_WIND = 999;
    private static final int GREATEST_MARK = 40;
    private static final int SECOND_ROUND = 32;
    private static final int TEAM_BEST = 4;
    private static final int ABSENT = -1;

    private static final int[] SEASON_ROW = {
        100, 80, 60, 50, 45, 40, 36, 32, 29, 26, 24, 22, 20, 18, 16, 15, 14, 13, 12, 11, 10, 9, 8, 7};

    private final int[] tape = new int[TAPE_LIMIT];
    private int taped;
    private final Scorer scorer = new Scorer();
    private final Board board = new Board();
    private final Board otherBoard = new Board();
    private final int[] teams = new int[JUMPER_LIMIT];
    private final int[] season = new int[JUMPER_LIMIT];
    private int jumpers;
    private int closed;
    private int recordLength = ABSENT;
    private int recordJumper = ABSENT;

    public JumpHill() {
    }

    public int feed(int a, int b, int c, int d, int e) {
        if (taped + 20 > TAPE_LIMIT) {
            return NONE;
        }
        tapeInt(a);
        tapeInt(b);
        tapeInt(c);
        tapeInt(d);
        tapeInt(e);
        return taped;
    }

    public int rules(int n) {
        if (n < 0 || n > taped) {
            return NONE;
        }
        taped = 0;
        return scorer.rules.read(tape, n);
    }

    public int rule(int what) {
        return Rules.isLetter(what) ? scorer.rules.number(what) : NONE;
    }

    public int jumper(int team) {
        if (!isTeam(team) || jumpers < 0 || jumpers >= JUMPER_LIMIT) {
            return NONE;
        }
        int number = jumpers;
        teams[number] = team;
        jumpers = number + 1;
        return number;
    }

    public boolean sensor(int s, int weight) {
        if (!isSensor(s) || weight < 0 || weight > GREATEST_WEIGHT) {
            return false;
        }
        scorer.weights[s] = weight;
        return true;
    }

    public boolean base(int gate) {
        if (!isGate(gate)) {
            return false;
        }
        scorer.base = gate;
        return true;
    }

    public int reading(int j, int round, int length, int gate, boolean coach) {
        if (!isJumper(j) || !isRound(round) || length < 0 || length > GREATEST_LENGTH || !isGate(gate)) {
            return NONE;
        }
        return scorer.entries.add(Entries.READING, jumpOf(j, round), length, gate, coach ? 1 : 0, 0, 0);
    }

    public int wind(int j, int a, int b, int c, int d, int e) {
        if (!isWind(a) || !isWind(b) || !isWind(c) || !isWind(d) || !isWind(e)) {
            return NONE;
        }
        return addToJump(Entries.WIND, j, a, b, c, d, e);
    }

    public int style(int j, int a, int b, int c, int d, int e) {
        if (!isMark(a) || !isMark(b) || !isMark(c) || !isMark(d) || !isMark(e)) {
            return NONE;
        }
        return addToJump(Entries.STYLE, j, a, b, c, d, e);
    }

    public int strike(int j, int round, boolean is) {
        if (!isJumper(j) || !isRound(round)) {
            return NONE;
        }
        int jump = jumpOf(j, round);
        scorer.know(scorer.entries.told);
        if (scorer.isStruck(jump) == is) {
            return NONE;
        }
        return scorer.entries.add(Entries.STRIKE, jump, is ? 1 : 0, 0, 0, 0, 0);
    }

    public int points(int e, int j, int round, int what) {
        if (!isKnowing(e) || !isJumper(j) || !isRound(round) || what < 0 || what > 7) {
            return NONE;
        }
        scorer.know(e);
        boolean hasPoints = scorer.measure(jumpOf(j, round));
        if (what == 7) {
            return scorer.mean;
        }
        return hasPoints ? partOfPoints(what) : NONE;
    }

    public int told(int e, int j, int what) {
        if (!isJumper(j)) {
            return NONE;
        }
        if (what == 3) {
            return teams[j];
        }
        if (what == 4) {
            return season[j];
        }
        if (!isKnowing(e) || what < 0 || what > 2) {
            return NONE;
        }
        board.draw(scorer, e, jumpers);
        if (what == 0) {
            return board.isThrough(j) ? 1 : 0;
        }
        if (!board.isListed(j)) {
            return NONE;
        }
        return what == 1 ? board.totalOf(j) : board.placeOf(j);
    }

    public int list(int e, int i) {
        if (!isKnowing(e)) {
            return NONE;
        }
        board.draw(scorer, e, jumpers);
        return board.isPosition(i) ? board.jumperAt(i) : NONE;
    }

    public int start(int e, int round, int i) {
        if (!isKnowing(e) || !isRound(round)) {
            return NONE;
        }
        if (round == 0) {
            return isJumper(i) ? i : NONE;
        }
        board.draw(scorer, e, jumpers);
        return board.starterAt(i);
    }

    public int team(int e, int t) {
        if (!isKnowing(e) || !isTeam(t)) {
            return NONE;
        }
        board.draw(scorer, e, jumpers);
        return teamTotal(t);
    }

    public int record(int what) {
        if (what != 0 && what != 1) {
            return NONE;
        }
        int jump = recordJump();
        if (jump >= 0) {
            return what == 0 ? scorer.lengthOf(jump) : jumperOf(jump);
        }
        if (recordLength < 0) {
            return NONE;
        }
        return what == 0 ? recordLength : recordJumper;
    }

    public int differ(int e, int f, int i) {
        if (!isKnowing(e) || !isKnowing(f) || i < 0) {
            return NONE;
        }
        board.draw(scorer, e, jumpers);
        otherBoard.draw(scorer, f, jumpers);
        int before = 0;
        for (int j = 0; j < jumpers; j++) {
            if (board.placeOf(j) != otherBoard.placeOf(j)) {
                if (before == i) {
                    return j;
                }
                before++;
            }
        }
        return NONE;
    }

    public int close() {
        board.draw(scorer, scorer.entries.told, jumpers);
        if (board.listed == 0) {
            return NONE;
        }
        for (int j = 0; j < jumpers && j < JUMPER_LIMIT; j++) {
            season[j] += seasonPoints(board.placeOf(j));
        }
        keepRecord();
        scorer.entries.told = 0;
        closed++;
        return board.listed;
    }

    public int count(int what) {
        switch (what) {
            case 0:
                return jumpers;
            case 1:
                return scorer.entries.told;
            case 2:
                return closed;
            case 3:
                return scorer.base;
            case 4:
                board.draw(scorer, scorer.entries.told, jumpers);
                return board.listed;
            case 5:
                board.draw(scorer, scorer.entries.told, jumpers);
                return board.passed;
            case 6:
                return taped;
            default:
                return what >= 10 && isSensor(what - 10) ? scorer.weights[what - 10] : NONE;
        }
    }

    private void tapeInt(int word) {
        for (int shift = 24; shift >= 0; shift -= 8) {
            if (taped >= 0 && taped < tape.length) {
                tape[taped] = (word >>> shift) & 255;
                taped++;
            }
        }
    }

    private int addToJump(int sort, int coded, int a, int b, int c, int d, int e) {
        int round = coded >= SECOND_ROUND ? 1 : 0;
        int j = coded - round * SECOND_ROUND;
        if (!isJumper(j)) {
            return NONE;
        }
        return scorer.entries.add(sort, jumpOf(j, round), a, b, c, d, e);
    }

    private boolean isTeam(int team) {
        return team >= 0 && team < TEAM_LIMIT;
    }

    private boolean isSensor(int s) {
        return s >= 0 && s < SENSOR_LIMIT;
    }

    private boolean isGate(int gate) {
        return gate >= 1 && gate <= GREATEST_GATE;
    }

    private boolean isRound(int round) {
        return round >= 0 && round < ROUND_LIMIT;
    }

    private boolean isWind(int read) {
        return read == NONE || read >= -GREATEST_WIND && read <= GREATEST_WIND;
    }

    private boolean isMark(int mark) {
        return mark >= 0 && mark <= GREATEST_MARK;
    }

    private boolean isJumper(int j) {
        return j >= 0 && j < jumpers && j < JUMPER_LIMIT;
    }

    private boolean isKnowing(int e) {
        return e >= 0 && e <= scorer.entries.told;
    }

    private static int jumpOf(int j, int round) {
        return round * JUMPER_LIMIT + j;
    }

    private static int jumperOf(int jump) {
        return jump % JUMPER_LIMIT;
    }

    private int partOfPoints(int what) {
        switch (what) {
            case 0:
                return scorer.sum();
            case 1:
                return scorer.length;
            case 2:
                return scorer.style;
            case 3:
                return scorer.gate;
            case 4:
                return scorer.wind;
            case 5:
                return scorer.worthOf(scorer.gate);
            case 6:
                return scorer.worthOf(scorer.wind);
            default:
                return NONE;
        }
    }

    /** THE LIST's own order will do: who is THROUGH has no smaller TOTAL than who is not. */
    private int teamTotal(int t) {
        int sum = 0;
        int taken = 0;
        for (int i = 0; i < board.listed && taken < TEAM_BEST; i++) {
            int j = board.jumperAt(i);
            if (isJumper(j) && teams[j] == t) {
                sum += board.totalOf(j);
                taken++;
            }
        }
        return taken == 0 ? NONE : sum;
    }

    private static int seasonPoints(int place) {
        return place >= 1 && place <= SEASON_ROW.length ? SEASON_ROW[place - 1] : 0;
    }

    /** The JUMP of this contest that is THE RECORD, or ABSENT if none is greater than the hill's. */
    private int recordJump() {
        scorer.know(scorer.entries.told);
        int best = ABSENT;
        for (int jump = 0; jump < JUMP_LIMIT; jump++) {
            if (scorer.mayBeRecord(jump) && scorer.lengthOf(jump) > recordLength
                    && (best < 0 || scorer.isLonger(jump, best))) {
                best = jump;
            }
        }
        return best;
    }

    private void keepRecord() {
        int jump = recordJump();
        if (jump >= 0) {
            recordLength = scorer.lengthOf(jump);
            recordJumper = jumperOf(jump);
        }
    }

    /** RULES: seven numbers, each told by its letter. */
    private static final class Rules {
        private static final int POINT = 0;
        private static final int PER_HALF_METRE = 1;
        private static final int PER_WIND = 2;
        private static final int PER_GATE = 3;
        private static final int COACH_SHARE = 4;
        private static final int THROUGH = 5;
        private static final int ALIKE_TOO = 6;
        private static final int LETTERS = 7;

        private static final char[] LETTER = {'k', 'm', 'w', 'g', 'h', 'c', 't'};
        private static final int[] FIRST = {240, 18, 100, 70, 95, 12, 1};
        private static final int[] LEAST = {20, 0, 0, 0, 0, 1, 0};
        private static final int[] GREATEST = {600, 99, 999, 999, 200, 24, 1};

        private static final int END = -1;
        private static final int NO_LETTER = 100;
        private static final int NO_DIGIT = 200;
        private static final int FIFTH_DIGIT = 300;
        private static final int BAD_NUMBER = 400;
        private static final int NO_CLAUSE_END = 500;

        private final int[] numbers = new int[LETTERS];
        // Beside the numbers, since a text with a FAULT must leave them as they are.
        private final int[] draft = new int[LETTERS];

        private Rules() {
            System.arraycopy(FIRST, 0, numbers, 0, LETTERS);
        }

        private static boolean isLetter(int what) {
            return what >= 0 && what < LETTERS;
        }

        private int number(int what) {
            return isLetter(what) ? numbers[what] : 0;
        }

        /** The first n bytes of the text become the RULES: 0, or the FAULT with its place. */
        private int read(int[] text, int n) {
            System.arraycopy(FIRST, 0, draft, 0, LETTERS);
            int letter = ABSENT;
            int digits = 0;
            int value = 0;
            for (int at = 0; at <= n; at++) {
                int sign = at < n && at < text.length ? text[at] : END;
                if (!isLetter(letter)) {
                    letter = letterOf(sign);
                    if (!isLetter(letter)) {
                        return NO_LETTER + at;
                    }
                    digits = 0;
                    value = 0;
                } else if (sign >= '0' && sign <= '9') {
                    if (digits == 4) {
                        return FIFTH_DIGIT + at;
                    }
                    value = value * 10 + sign - '0';
                    digits++;
                } else {
                    int fault = faultOfClause(letter, value, digits, sign, at);
                    if (fault != 0) {
                        return fault;
                    }
                    draft[letter] = value;
                    letter = ABSENT;
                }
            }
            System.arraycopy(draft, 0, numbers, 0, LETTERS);
            return 0;
        }

        /** What is wrong with a CLAUSE whose digits have ended before the sign at that place: 0 if nothing is. */
        private static int faultOfClause(int letter, int value, int digits, int sign, int at) {
            if (digits == 0) {
                return NO_DIGIT + at;
            }
            if (!canBe(letter, value)) {
                return BAD_NUMBER + at - digits;
            }
            return sign == ';' || sign == END ? 0 : NO_CLAUSE_END + at;
        }

        private static boolean canBe(int letter, int value) {
            return isLetter(letter) && value >= LEAST[letter] && value <= GREATEST[letter];
        }

        private static int letterOf(int sign) {
            for (int what = 0; what < LETTERS; what++) {
                if (LETTER[what] == sign) {
                    return what;
                }
            }
            return ABSENT;
        }
    }

    /** ENTRIES in the order in which they were told. */
    private static final class Entries {
        private static final int READING = 0;
        private static final int WIND = 1;
        private static final int STYLE = 2;
        private static final int STRIKE = 3;
        private static final int SORTS = 4;
        private static final int VALUES = 5;

        private final int[] sorts = new int[ENTRY_LIMIT];
        private final int[] jumps = new int[ENTRY_LIMIT];
        private final int[] values = new int[ENTRY_LIMIT * VALUES];
        private int told;

        /** The new ENTRY's number; NONE if there is no room for it. */
        private int add(int sort, int jump, int a, int b, int c, int d, int e) {
            if (told < 0 || told >= ENTRY_LIMIT) {
                return NONE;
            }
            int number = told;
            int at = number * VALUES;
            sorts[number] = sort;
            jumps[number] = jump;
            values[at] = a;
            values[at + 1] = b;
            values[at + 2] = c;
            values[at + 3] = d;
            values[at + 4] = e;
            told = number + 1;
            return number;
        }

        private int value(int entry, int i) {
            int at = entry * VALUES + i;
            return at >= 0 && at < values.length ? values[at] : 0;
        }
    }

    /** What is known of each JUMP, and its POINTS. */
    private static final class Scorer {
        private final Rules rules = new Rules();
        private final Entries entries = new Entries();
        private final int[] weights = {1, 1, 1, 1, 1};
        private int base = 20;

        // The number of the ENTRY that counts, for each sort and JUMP.
        private final int[] counting = new int[Entries.SORTS * JUMP_LIMIT];

        // The parts of the JUMP that was measured last.
        private int length;
        private int style;
        private int gate;
        private int wind;
        private int mean;

        private void know(int e) {
            Arrays.fill(counting, ABSENT);
            for (int n = 0; n < e && n < ENTRY_LIMIT; n++) {
                int at = entries.sorts[n] * JUMP_LIMIT + entries.jumps[n];
                if (at >= 0 && at < counting.length) {
                    counting[at] = n;
                }
            }
        }

        private int countingOf(int sort, int jump) {
            int at = sort * JUMP_LIMIT + jump;
            return at >= 0 && at < counting.length ? counting[at] : ABSENT;
        }

        private boolean isStruck(int jump) {
            int entry = countingOf(Entries.STRIKE, jump);
            return entry >= 0 && entries.value(entry, 0) == 1;
        }

        private boolean hasPoints(int jump) {
            return countingOf(Entries.READING, jump) >= 0 && !isStruck(jump);
        }

        private int lengthOf(int jump) {
            return entries.value(countingOf(Entries.READING, jump), 0);
        }

        /** Fills in the parts of a JUMP: whether it has POINTS. THE MEAN is filled in for any JUMP. */
        private boolean measure(int jump) {
            mean = meanOf(countingOf(Entries.WIND, jump));
            if (!hasPoints(jump)) {
                return false;
            }
            int reading = countingOf(Entries.READING, jump);
            length = 1200 + rules.number(Rules.PER_HALF_METRE)
                    * (entries.value(reading, 0) - rules.number(Rules.POINT));
            style = styleOf(countingOf(Entries.STYLE, jump));
            gate = gateOf(reading);
            wind = -2 * rounded(mean * rules.number(Rules.PER_WIND), 100);
            return true;
        }

        private int sum() {
            return Math.max(0, length + style + gate + wind);
        }

        private int worthOf(int part) {
            return sum() - Math.max(0, length + style + gate + wind - part);
        }

        private int styleOf(int entry) {
            if (entry < 0) {
                return 0;
            }
            int sum = 0;
            int least = GREATEST_MARK;
            int greatest = 0;
            for (int i = 0; i < Entries.VALUES; i++) {
                int mark = entries.value(entry, i);
                sum += mark;
                least = Math.min(least, mark);
                greatest = Math.max(greatest, mark);
            }
            return 10 * (sum - least - greatest);
        }

        private int gateOf(int reading) {
            boolean byCoach = entries.value(reading, 2) == 1;
            if (byCoach && 100 * entries.value(reading, 0)
                    < rules.number(Rules.COACH_SHARE) * rules.number(Rules.POINT)) {
                return 0;
            }
            return 2 * rules.number(Rules.PER_GATE) * (base - entries.value(reading, 1));
        }

        private int meanOf(int entry) {
            if (entry < 0) {
                return 0;
            }
            int sum = 0;
            int weight = 0;
            for (int s = 0; s < weights.length; s++) {
                int read = entries.value(entry, s);
                if (read != NONE) {
                    sum += weights[s] * read;
                    weight += weights[s];
                }
            }
            return rounded(sum, weight);
        }

        /** The quotient to the nearest whole, halves away from 0; 0 if there is nothing to divide by. */
        private static int rounded(int dividend, int divisor) {
            if (divisor <= 0) {
                return 0;
            }
            int size = (2 * Math.abs(dividend) + divisor) / (2 * divisor);
            return dividend < 0 ? -size : size;
        }

        private boolean mayBeRecord(int jump) {
            int entry = countingOf(Entries.STYLE, jump);
            if (entry < 0 || !hasPoints(jump)) {
                return false;
            }
            for (int i = 0; i < Entries.VALUES; i++) {
                if (entries.value(entry, i) < 20) {
                    return false;
                }
            }
            return true;
        }

        private boolean isLonger(int jump, int other) {
            int difference = lengthOf(jump) - lengthOf(other);
            return difference > 0 || difference == 0
                    && countingOf(Entries.READING, jump) < countingOf(Entries.READING, other);
        }
    }

    /** Who is THROUGH, TOTALS, THE LIST and PLACES by one KNOWING. */
    private static final class Board {
        // POINTS of ROUND 0, or ABSENT.
        private final int[] first = new int[JUMPER_LIMIT];
        private final boolean[] through = new boolean[JUMPER_LIMIT];
        private final int[] totals = new int[JUMPER_LIMIT];
        // 0 for who is not on THE LIST.
        private final int[] places = new int[JUMPER_LIMIT];
        private final int[] order = new int[JUMPER_LIMIT];
        private int listed;
        private int passed;

        private void draw(Scorer scorer, int e, int jumpers) {
            scorer.know(e);
            listed = 0;
            passed = 0;
            for (int j = 0; j < JUMPER_LIMIT; j++) {
                boolean hasPoints = j < jumpers && scorer.measure(j);
                first[j] = hasPoints ? scorer.sum() : ABSENT;
                listed += hasPoints ? 1 : 0;
            }
            for (int j = 0; j < JUMPER_LIMIT; j++) {
                through[j] = first[j] >= 0 && aheadInRoundZero(j, scorer.rules) < scorer.rules.number(Rules.THROUGH);
                passed += through[j] ? 1 : 0;
                boolean second = through[j] && scorer.measure(JUMPER_LIMIT + j);
                totals[j] = first[j] + (second ? scorer.sum() : 0);
            }
            for (int j = 0; j < JUMPER_LIMIT; j++) {
                placeOnList(j);
            }
        }

        /**
         * How many stand between this one and being THROUGH: where all like the last one are THROUGH,
         * like ones don't.
         */
        private int aheadInRoundZero(int j, Rules rules) {
            boolean alikeCount = rules.number(Rules.ALIKE_TOO) == 0;
            int ahead = 0;
            for (int other = 0; other < JUMPER_LIMIT; other++) {
                boolean isAhead = first[other] > first[j]
                        || alikeCount && first[other] == first[j] && other < j;
                ahead += isAhead ? 1 : 0;
            }
            return ahead;
        }

        private void placeOnList(int j) {
            places[j] = 0;
            if (first[j] < 0) {
                return;
            }
            int better = 0;
            int alikeBefore = 0;
            for (int other = 0; other < JUMPER_LIMIT; other++) {
                if (first[other] >= 0) {
                    better += isBetter(other, j) ? 1 : 0;
                    alikeBefore += other < j && through[other] == through[j] && totals[other] == totals[j] ? 1 : 0;
                }
            }
            places[j] = 1 + better;
            int position = better + alikeBefore;
            if (position < JUMPER_LIMIT) {
                order[position] = j;
            }
        }

        private boolean isBetter(int other, int j) {
            return through[other] == through[j] ? totals[other] > totals[j] : through[other];
        }

        private boolean isListed(int j) {
            return placeOf(j) > 0;
        }

        private boolean isThrough(int j) {
            return j >= 0 && j < JUMPER_LIMIT && through[j];
        }

        private int totalOf(int j) {
            return j >= 0 && j < JUMPER_LIMIT ? totals[j] : 0;
        }

        private int placeOf(int j) {
            return j >= 0 && j < JUMPER_LIMIT ? places[j] : 0;
        }

        private boolean isPosition(int i) {
            return i >= 0 && i < listed;
        }

        private int jumperAt(int i) {
            return i >= 0 && i < JUMPER_LIMIT ? order[i] : NONE;
        }

        /** The i-th to START in ROUND 1: NONE if there is none such. */
        private int starterAt(int i) {
            for (int j = 0; j < JUMPER_LIMIT; j++) {
                if (through[j] && startersBefore(j) == i) {
                    return j;
                }
            }
            return NONE;
        }

        private int startersBefore(int j) {
            int before = 0;
            for (int other = 0; other < JUMPER_LIMIT; other++) {
                boolean isBefore = through[other]
                        && (first[other] < first[j] || first[other] == first[j] && other > j);
                before += isBefore ? 1 : 0;
            }
            return before;
        }
    }
}
