/**
 * A guard of statistics: it answers questions for sums over chosen people, and refuses, by the
 * questions alone, what would fix one value. The words are those of ../shared/DOC.md.
 */
public final class GuardOfSums {
    private static final int PEOPLE = 8;
    private static final int VARIABLES = 10;
    private static final int GREATEST_VALUE = 99;
    private static final int EVERYBODY = 255;
    private static final int RULES = 4;
    private static final int GREATEST_LIMIT = 10;
    private static final int GREATEST_BYTE = 255;
    private static final int LETTER_ROOM = 96;
    private static final int ROW_ROOM = 32;
    private static final int NARROWING_ROUNDS = 60;
    private static final int MOST_LOTS = 20;
    private static final int ASKED_PER_LOT = 8;
    private static final int WITHOUT_SIGN = 0x7fffffff;

    private static final int FITS = 0;
    private static final int NOBODY = -1;
    private static final int OTHER = -2;
    private static final int STATE = -3;
    private static final int BELOW = -4;
    private static final int BY_GUARD = -5;
    private static final int ROOM = -6;
    private static final int REFUSAL_KINDS = 6;
    private static final int NONE = -9;
    private static final int ASK_REFUSALS = 1000000000;
    private static final long LONG_REFUSALS = 4000000000000000000L;

    private static final int SUM = 0;
    private static final int DIFFERENCE = 1;
    private static final int WEIGHED = 2;

    private static final int SIZED = 1;
    private static final int PAIRED = 2;
    private static final int BUDGET = 3;

    private static final int SPANNED = 0;
    private static final int JOINS = 1;
    private static final int REFUSED = 2;

    private static final int ABOVE_LINE = 0;

    private static final int FAULT_OF_FORM = -1000;
    private static final int FAULT_OF_SENSE = -2000;

    private final World world = new World();
    /** What is tried in mind; it holds nothing from one call to the next. */
    private final World draft = new World();
    private final World kept = new World();
    private boolean isKept;
    private final Question question = new Question();
    private final Narrowing narrowing = new Narrowing();
    private final Numbers letters = new Numbers(LETTER_ROOM);
    private final Numbers told = new Numbers(ROW_ROOM);
    private final int[] refusals = new int[REFUSAL_KINDS];

    public GuardOfSums() {
    }

    // ---- telling

    public int letter(int c) {
        return append(letters, c);
    }

    public int guard() {
        draft.copyFrom(world);
        int met = Script.perform(letters, draft, question);
        letters.forget();
        if (met >= 0) {
            world.copyFrom(draft);
        }
        return met;
    }

    public int person(int person, int what) {
        if (!isWithin(person, PEOPLE)) {
            return refuse(NOBODY);
        }
        if (!isWithin(what, 3)) {
            return refuse(OTHER);
        }
        int variable = world.variableOf(person);
        return what == 0 ? world.valueOf(variable) : what == 1 ? variable : asNumber(world.isFree(variable));
    }

    public int variable(int variable, int what) {
        if (!world.has(variable)) {
            return refuse(NOBODY);
        }
        if (!isWithin(what, 7)) {
            return refuse(OTHER);
        }
        switch (what) {
            case 0:
                return world.valueOf(variable);
            case 1:
                return world.lowOf(variable);
            case 2:
                return world.highOf(variable);
            case 6:
                return asNumber(world.isFree(variable));
            default:
                return narrowed(variable, what);
        }
    }

    private int narrowed(int variable, int what) {
        narrowing.narrow(world);
        return what == 3 ? narrowing.leastOf(variable)
            : what == 4 ? narrowing.mostOf(variable) : narrowing.widthOf(variable);
    }

    public int tells(int person, int v) {
        int misfit = misfitOfValue(person, v);
        if (misfit != FITS) {
            return refuse(misfit);
        }
        int before = world.valueOf(world.variableOf(person));
        return world.takeTold(person, v) ? before : refuse(STATE);
    }

    public int changes(int person, int v) {
        int misfit = misfitOfValue(person, v);
        if (misfit != FITS) {
            return refuse(misfit);
        }
        return world.takeChange(person, v) ? world.variableOf(person) : refuse(ROOM);
    }

    private static int misfitOfValue(int person, int v) {
        if (!isWithin(person, PEOPLE)) {
            return NOBODY;
        }
        return misfit(v, 0, GREATEST_VALUE);
    }

    public int bounds(int variable, int low, int high) {
        if (!world.has(variable)) {
            return refuse(NOBODY);
        }
        if (low < 0 || high < 0) {
            return refuse(BELOW);
        }
        if (low > GREATEST_VALUE || high > GREATEST_VALUE) {
            return refuse(ROOM);
        }
        return world.takeBounds(variable, low, high) ? 1 : refuse(STATE);
    }

    public int rule(int rule) {
        int before = world.rule;
        return world.takeRule(rule) ? before : refuse(OTHER);
    }

    public int limit(int n) {
        int misfit = misfit(n, 0, GREATEST_LIMIT);
        if (misfit != FITS) {
            return refuse(misfit);
        }
        int before = world.limit;
        world.takeLimit(n);
        return before;
    }

    // ---- asking

    public int ask(int kind, int a, int b) {
        int misfit = Question.misfitOf(kind, a, b);
        if (misfit != FITS) {
            return ASK_REFUSALS - refuse(misfit);
        }
        question.make(kind, a, b);
        if (world.takeQuestion(question) == REFUSED) {
            return ASK_REFUSALS - refuse(BY_GUARD);
        }
        return world.trueAnswer(question);
    }

    public int would(int kind, int a, int b) {
        int misfit = Question.misfitOf(kind, a, b);
        if (misfit != FITS) {
            return refuse(misfit);
        }
        question.make(kind, a, b);
        return world.meetingBy(question, world.rule, world.limit);
    }

    public int sums(int what) {
        switch (what) {
            case 0:
                return leastJoining();
            case 1:
                return howMany(JOINS);
            case 2:
                return howMany(REFUSED);
            case 3:
                return howMany(SPANNED);
            default:
                return refuse(OTHER);
        }
    }

    private int leastJoining() {
        for (int a = 1; a <= EVERYBODY; a++) {
            if (meetingOfSum(world, a) == JOINS) {
                return a;
            }
        }
        return NONE;
    }

    private int howMany(int meeting) {
        int found = 0;
        for (int a = 1; a <= EVERYBODY; a++) {
            if (meetingOfSum(world, a) == meeting) {
                found++;
            }
        }
        return found;
    }

    private int meetingOfSum(World where, int a) {
        question.make(SUM, a, 0);
        return where.meetingBy(question, where.rule, where.limit);
    }

    private int takeSum(World where, int a) {
        question.make(SUM, a, 0);
        return where.takeQuestion(question);
    }

    // ---- looking at THE LEDGER

    public int ledger(int i, int variable) {
        if (!isWithin(i, world.rank) || !world.has(variable)) {
            return refuse(NOBODY);
        }
        return 100 + world.coefficient(i, variable);
    }

    public long answer(int i) {
        if (!isWithin(i, world.rank)) {
            return LONG_REFUSALS - refuse(NOBODY);
        }
        return world.answerOf(i);
    }

    public long reduced(int i, int variable, int part) {
        if (!isWithin(i, world.rank) || !world.has(variable)) {
            return LONG_REFUSALS - refuse(NOBODY);
        }
        if (!isWithin(part, 2)) {
            return LONG_REFUSALS - refuse(OTHER);
        }
        return world.space.reducedPart(i, variable, part);
    }

    public int pivots() {
        return world.space.pivotBits;
    }

    public int attack(int variable, int what) {
        if (!world.has(variable)) {
            return refuse(NOBODY);
        }
        if (!isWithin(what, 2)) {
            return refuse(OTHER);
        }
        int least = NONE;
        int found = 0;
        for (int a = EVERYBODY; a >= 1; a--) {
            question.make(SUM, a, 0);
            if ((world.fixedBitsWith(question) >> variable & 1) == 1) {
                least = a;
                found++;
            }
        }
        return what == 0 ? least : found;
    }

    // ---- what is learned

    public int known() {
        narrowing.narrow(world);
        return narrowing.knownBits();
    }

    public int learns(int kind, int a, int b, int what) {
        int misfit = Question.misfitOf(kind, a, b);
        if (misfit != FITS) {
            return refuse(misfit);
        }
        if (!isWithin(what, 3)) {
            return refuse(OTHER);
        }
        draft.copyFrom(world);
        question.make(kind, a, b);
        draft.join(question);
        narrowing.narrow(draft);
        int narrowest = narrowing.narrowest();
        return what == 0 ? narrowing.widthOf(narrowest)
            : what == 1 ? narrowest : Integer.bitCount(narrowing.knownBits());
    }

    public long mean(int part) {
        if (!isWithin(part, 2)) {
            return LONG_REFUSALS - refuse(OTHER);
        }
        narrowing.narrow(world);
        return partInLeastTerms(narrowing.widths(), world.variables, part);
    }

    // ---- what several questions would meet

    public int order(int a, int b, int c, int what) {
        int misfit = misfitOfAll(Math.min(a, Math.min(b, c)), Math.max(a, Math.max(b, c)));
        if (misfit != FITS) {
            return refuse(misfit);
        }
        if (!isWithin(what, 2)) {
            return refuse(OTHER);
        }
        int best = 0;
        int most = -1;
        for (int first = 0; first < 3; first++) {
            for (int second = 0; second < 3; second++) {
                if (second == first) {
                    continue;
                }
                int third = 3 - first - second;
                int joined = joinedInTurn(pick(first, a, b, c), pick(second, a, b, c), pick(third, a, b, c));
                if (joined > most) {
                    most = joined;
                    best = 100 * first + 10 * second + third;
                }
            }
        }
        return what == 0 ? best : most;
    }

    private static int pick(int place, int a, int b, int c) {
        return place == 0 ? a : place == 1 ? b : c;
    }

    private int joinedInTurn(int a, int b, int c) {
        draft.copyFrom(world);
        return asNumber(takeSum(draft, a) == JOINS)
            + asNumber(takeSum(draft, b) == JOINS)
            + asNumber(takeSum(draft, c) == JOINS);
    }

    public int two(int a, int b) {
        int misfit = misfitOfAll(Math.min(a, b), Math.max(a, b));
        if (misfit != FITS) {
            return refuse(misfit);
        }
        int otherAlone = gain(meetingOfSum(world, b));
        draft.copyFrom(world);
        int one = gain(takeSum(draft, a));
        int otherBehind = gain(meetingOfSum(draft, b));
        for (int first = 0; first < 2; first++) {
            // what the one has does not hang on the other, who asks behind it
            boolean oneRests = first == 1 ? one >= 0 : one <= 0;
            int other = first == 1 ? otherBehind : otherAlone;
            for (int second = 0; second < 2; second++) {
                boolean otherRests = second == 1 ? other >= 0 : other <= 0;
                if (oneRests && otherRests) {
                    return 10 * first + second;
                }
            }
        }
        return NONE;
    }

    private static int gain(int meeting) {
        return meeting == JOINS ? 3 : meeting == SPANNED ? 1 : -1;
    }

    public int cheapest(int what) {
        if (!isWithin(what, 2)) {
            return refuse(OTHER);
        }
        int best = NONE;
        int leastSize = PEOPLE + 1;
        for (int a = 1; a <= EVERYBODY; a++) {
            int size = Integer.bitCount(a);
            if (size < leastSize && meetingOfSum(world, a) == JOINS) {
                best = a;
                leastSize = size;
            }
        }
        return what == 0 || best == NONE ? best : leastSize;
    }

    public long share(int part) {
        if (!isWithin(part, 2)) {
            return LONG_REFUSALS - refuse(OTHER);
        }
        return partInLeastTerms(EVERYBODY - howMany(REFUSED), EVERYBODY, part);
    }

    public int lots(int n, int z, int what) {
        int misfit = misfit(n, 1, MOST_LOTS);
        if (misfit != FITS) {
            return refuse(misfit);
        }
        if (!isWithin(what, 2)) {
            return refuse(OTHER);
        }
        int wanted = what == 0 ? JOINS : REFUSED;
        int seed = z;
        int found = 0;
        for (int guard = 0; guard < n; guard++) {
            draft.copyFrom(world);
            for (int asked = 0; asked < ASKED_PER_LOT; asked++) {
                seed = seed * 1664525 + 1013904223;
                int drawn = (seed & WITHOUT_SIGN) / 256 % EVERYBODY;
                if (takeSum(draft, 1 + drawn) == wanted) {
                    found++;
                }
            }
        }
        return found;
    }

    // ---- THE ROW

    public int row(int v) {
        return append(told, v);
    }

    public int clear() {
        int had = told.size;
        told.forget();
        return had;
    }

    public int which(int what) {
        if (!isWithin(what, 2)) {
            return refuse(OTHER);
        }
        if (!isRowOfPairs()) {
            return refuse(STATE);
        }
        int fitting = 0;
        int candidates = what == 0 ? RULES : GREATEST_LIMIT + 1;
        for (int candidate = 0; candidate < candidates; candidate++) {
            boolean fits = what == 0
                ? isMetBy(candidate, world.limit) : isMetBy(world.rule, candidate);
            if (fits) {
                fitting |= 1 << candidate;
            }
        }
        return fitting;
    }

    private boolean isRowOfPairs() {
        for (int i = 0; i < told.size; i += 2) {
            if (told.at(i) == 0) {
                return false;
            }
        }
        return told.size % 2 == 0;
    }

    private boolean isMetBy(int rule, int limit) {
        for (int i = 0; i < told.size; i += 2) {
            question.make(SUM, told.at(i), 0);
            if (world.meetingBy(question, rule, limit) != told.at(i + 1)) {
                return false;
            }
        }
        return true;
    }

    public int judge() {
        int wrong = NONE;
        for (int i = world.rank - 1; i >= 0; i--) {
            if (world.answerByTold(i, told) != world.answerOf(i)) {
                wrong = i;
            }
        }
        told.forget();
        return wrong;
    }

    // ---- THE IMAGE and the counts

    public int image() {
        kept.copyFrom(world);
        isKept = true;
        return world.rank;
    }

    public int on() {
        if (!isKept) {
            return refuse(STATE);
        }
        world.copyFrom(kept);
        return world.rank;
    }

    public int count(int what) {
        switch (what) {
            case 0:
                return world.rank;
            case 1:
                return world.variables;
            case 2:
                return world.rule;
            case 3:
                return world.limit;
            case 4:
                return world.usedBits();
            case 5:
                return world.valuesOfPeople();
            case 6:
                return told.size;
            case 7:
                return letters.size;
            default:
                return isWithin(what - 11, REFUSAL_KINDS) ? refusals[what - 11] : NONE;
        }
    }

    // ---- refusing

    private int refuse(int refusal) {
        int place = -1 - refusal;
        if (isWithin(place, REFUSAL_KINDS)) {
            refusals[place]++;
        }
        return refusal;
    }

    private int append(Numbers list, int number) {
        int misfit = misfit(number, 0, GREATEST_BYTE);
        if (misfit != FITS) {
            return refuse(misfit);
        }
        return list.add(number) ? list.size : refuse(ROOM);
    }

    private static int misfitOfAll(int leastSum, int greatestSum) {
        return leastSum < 1 ? BELOW : greatestSum > EVERYBODY ? ROOM : FITS;
    }

    private static int misfit(int number, int least, int greatest) {
        return number < least ? BELOW : number > greatest ? ROOM : FITS;
    }

    private static boolean isWithin(int i, int size) {
        return i >= 0 && i < size;
    }

    private static int asNumber(boolean so) {
        return so ? 1 : 0;
    }

    /** Above or below the line of a fraction in least terms; a fraction by 0 is 0 by 1. */
    private static long partInLeastTerms(long above, long below, int part) {
        long divisor = greatestDivisor(Math.abs(above), Math.abs(below));
        if (above == 0 || below == 0 || divisor == 0) {
            return part == ABOVE_LINE ? 0 : 1;
        }
        long signed = below < 0 ? -divisor : divisor;
        return (part == ABOVE_LINE ? above : below) / signed;
    }

    private static long greatestDivisor(long a, long b) {
        long x = a;
        long y = b;
        // two longs need fewer than a hundred steps
        for (int step = 0; step < 200 && y != 0; step++) {
            long next = x % y;
            x = y;
            y = next;
        }
        return x;
    }

    /** Numbers one behind the other, so many at most. */
    private static final class Numbers {
        int size;
        private final int[] numbers;

        Numbers(int room) {
            numbers = new int[room < 0 ? 0 : room];
        }

        boolean add(int number) {
            if (!isWithin(size, numbers.length)) {
                return false;
            }
            numbers[size] = number;
            size++;
            return true;
        }

        int at(int i) {
            return isWithin(i, size) && isWithin(i, numbers.length) ? numbers[i] : NONE;
        }

        void forget() {
            size = 0;
        }
    }

    /** A QUESTION: the WEIGHT that each of PEOPLE has in it. */
    private static final class Question {
        final int[] weights = new int[PEOPLE];

        static int misfitOf(int kind, int a, int b) {
            if (kind != SUM && kind != DIFFERENCE && kind != WEIGHED) {
                return OTHER;
            }
            boolean looksAtB = kind != SUM;
            if (a < 1 || looksAtB && b < 1) {
                return BELOW;
            }
            int greatestB = kind == WEIGHED ? 3 : EVERYBODY;
            if (a > EVERYBODY || looksAtB && b > greatestB) {
                return ROOM;
            }
            return kind == DIFFERENCE && (a & b) != 0 ? STATE : FITS;
        }

        void make(int kind, int a, int b) {
            for (int person = 0; person < PEOPLE; person++) {
                int inA = a >> person & 1;
                int inB = b >> person & 1;
                int weight = inA;
                if (kind == DIFFERENCE) {
                    weight = inA - inB;
                } else if (kind == WEIGHED && b != 0) {
                    weight = inA * (1 + person % b);
                }
                weights[person] = weight;
            }
        }

        int size() {
            int size = 0;
            for (int person = 0; person < PEOPLE; person++) {
                if (weights[person] != 0) {
                    size++;
                }
            }
            return size;
        }
    }

    /**
     * The space of rows that joined, held as what is left of each VARIABLE alone when rows of the
     * space are taken away until nothing stands in a PIVOT. A row is in the space if nothing is
     * left of it; a VARIABLE is FIXED if nothing is left of it.
     */
    private static final class Space {
        // Times scale all that is left is whole: minors of the rows, below 40 million (10 rows of
        // 8 WEIGHTS up to 3), so products of two fit a long and every division below is exact.
        private final long[][] left = new long[VARIABLES][VARIABLES];
        private long scale = 1;
        int pivotBits;

        Space() {
            for (int variable = 0; variable < VARIABLES; variable++) {
                left[variable][variable] = 1;
            }
        }

        void copyFrom(Space other) {
            for (int variable = 0; variable < VARIABLES; variable++) {
                System.arraycopy(other.left[variable], 0, left[variable], 0, VARIABLES);
            }
            scale = other.scale;
            pivotBits = other.pivotBits;
        }

        /** What is left of a row, times scale. */
        void leave(int[] row, long[] rest) {
            for (int column = 0; column < VARIABLES; column++) {
                rest[column] = 0;
            }
            for (int variable = 0; variable < VARIABLES; variable++) {
                int coefficient = row[variable];
                if (coefficient == 0) {
                    continue;
                }
                for (int column = 0; column < VARIABLES; column++) {
                    rest[column] += coefficient * left[variable][column];
                }
            }
        }

        void join(long[] rest) {
            int pivot = firstIn(rest);
            if (!isWithin(pivot, VARIABLES) || scale == 0) {
                return;
            }
            long next = rest[pivot];
            for (int variable = 0; variable < VARIABLES; variable++) {
                long times = left[variable][pivot];
                for (int column = 0; column < VARIABLES; column++) {
                    left[variable][column] = (left[variable][column] * next - times * rest[column]) / scale;
                }
            }
            scale = next;
            pivotBits |= 1 << pivot;
        }

        /** VARIABLES (bits) that would be FIXED, if a row joined of which this rest is left. */
        int fixedBitsWith(long[] rest) {
            int bits = 0;
            for (int variable = 0; variable < VARIABLES; variable++) {
                int first = firstIn(left[variable]);
                if (first < 0 || isOneLine(left[variable], rest, first)) {
                    bits |= 1 << variable;
                }
            }
            return bits;
        }

        /** Whether COEFFICIENTS of just two VARIABLES are in the space; none may be FIXED. */
        boolean hasPair() {
            for (int one = 0; one < VARIABLES; one++) {
                int first = firstIn(left[one]);
                for (int other = one + 1; other < VARIABLES; other++) {
                    if (isOneLine(left[one], left[other], first)) {
                        return true;
                    }
                }
            }
            return false;
        }

        long reducedPart(int i, int variable, int part) {
            int pivot = pivotOf(i);
            if (!isWithin(pivot, VARIABLES) || !isWithin(variable, VARIABLES)) {
                return 0;
            }
            if ((pivotBits >> variable & 1) == 1) {
                return partInLeastTerms(asNumber(variable == pivot), 1, part);
            }
            return partInLeastTerms(-left[pivot][variable], scale, part);
        }

        private int pivotOf(int i) {
            int ahead = 0;
            for (int variable = 0; variable < VARIABLES; variable++) {
                if ((pivotBits >> variable & 1) == 1) {
                    if (ahead == i) {
                        return variable;
                    }
                    ahead++;
                }
            }
            return NONE;
        }

        static int firstIn(long[] row) {
            for (int column = 0; column < VARIABLES; column++) {
                if (row[column] != 0) {
                    return column;
                }
            }
            return NONE;
        }

        /** Whether the one, with its first at that column, is the other times some fraction but 0. */
        private static boolean isOneLine(long[] one, long[] other, int first) {
            if (first < 0 || first >= VARIABLES || other[first] == 0) {
                return false;
            }
            for (int column = 0; column < VARIABLES; column++) {
                if (one[column] * other[first] != other[column] * one[first]) {
                    return false;
                }
            }
            return true;
        }
    }

    /** PEOPLE, VARIABLES, THE LEDGER and THE GUARD: all that an image holds. */
    private static final class World {
        private final int[] owned = new int[PEOPLE];
        private final int[] values = new int[VARIABLES];
        private final int[] lows = new int[VARIABLES];
        private final int[] highs = new int[VARIABLES];
        int variables = PEOPLE;
        int rule;
        int limit = 4;
        private final int[][] rows = new int[VARIABLES][VARIABLES];
        private final int[] answers = new int[VARIABLES];
        int rank;
        final Space space = new Space();
        private final Space trial = new Space();
        // the QUESTION looked at last: its COEFFICIENTS and what is left of them
        private final int[] asked = new int[VARIABLES];
        private final long[] rest = new long[VARIABLES];

        World() {
            for (int person = 0; person < PEOPLE; person++) {
                owned[person] = person;
            }
            for (int variable = 0; variable < VARIABLES; variable++) {
                highs[variable] = GREATEST_VALUE;
            }
        }

        void copyFrom(World other) {
            System.arraycopy(other.owned, 0, owned, 0, PEOPLE);
            System.arraycopy(other.values, 0, values, 0, VARIABLES);
            System.arraycopy(other.lows, 0, lows, 0, VARIABLES);
            System.arraycopy(other.highs, 0, highs, 0, VARIABLES);
            System.arraycopy(other.answers, 0, answers, 0, VARIABLES);
            for (int i = 0; i < VARIABLES; i++) {
                System.arraycopy(other.rows[i], 0, rows[i], 0, VARIABLES);
            }
            variables = other.variables;
            rule = other.rule;
            limit = other.limit;
            rank = other.rank;
            space.copyFrom(other.space);
        }

        boolean has(int variable) {
            return isWithin(variable, variables) && isWithin(variable, VARIABLES);
        }

        int variableOf(int person) {
            return isWithin(person, PEOPLE) ? owned[person] : NONE;
        }

        int valueOf(int variable) {
            return has(variable) ? values[variable] : 0;
        }

        int lowOf(int variable) {
            return has(variable) ? lows[variable] : 0;
        }

        int highOf(int variable) {
            return has(variable) ? highs[variable] : 0;
        }

        int coefficient(int i, int variable) {
            return isWithin(i, VARIABLES) && isWithin(variable, VARIABLES) ? rows[i][variable] : 0;
        }

        int answerOf(int i) {
            return isWithin(i, VARIABLES) ? answers[i] : 0;
        }

        boolean isFree(int variable) {
            for (int i = 0; i < rank; i++) {
                if (coefficient(i, variable) != 0) {
                    return false;
                }
            }
            return true;
        }

        int usedBits() {
            int bits = 0;
            for (int variable = 0; variable < VARIABLES; variable++) {
                if (!isFree(variable)) {
                    bits |= 1 << variable;
                }
            }
            return bits;
        }

        int valuesOfPeople() {
            int sum = 0;
            for (int person = 0; person < PEOPLE; person++) {
                sum += valueOf(owned[person]);
            }
            return sum;
        }

        int answerByTold(int i, Numbers told) {
            int sum = 0;
            for (int variable = 0; variable < variables; variable++) {
                int value = variable < told.size ? told.at(variable) : valueOf(variable);
                sum += coefficient(i, variable) * value;
            }
            return sum;
        }

        boolean takeTold(int person, int value) {
            int variable = variableOf(person);
            if (!has(variable) || !isFree(variable)) {
                return false;
            }
            set(variable, value);
            return true;
        }

        boolean takeChange(int person, int value) {
            if (!isWithin(person, PEOPLE) || !isWithin(variables, VARIABLES)) {
                return false;
            }
            owned[person] = variables;
            set(variables, value);
            variables++;
            return true;
        }

        private void set(int variable, int value) {
            if (isWithin(variable, VARIABLES)) {
                values[variable] = value;
                lows[variable] = 0;
                highs[variable] = GREATEST_VALUE;
            }
        }

        boolean takeBounds(int variable, int low, int high) {
            if (!has(variable) || low > values[variable] || high < values[variable]) {
                return false;
            }
            lows[variable] = low;
            highs[variable] = high;
            return true;
        }

        boolean takeRule(int next) {
            if (!isWithin(next, RULES)) {
                return false;
            }
            rule = next;
            return true;
        }

        boolean takeLimit(int next) {
            if (!isWithin(next, GREATEST_LIMIT + 1)) {
                return false;
            }
            limit = next;
            return true;
        }

        /** Asks; what it met. */
        int takeQuestion(Question question) {
            int met = meetingBy(question, rule, limit);
            if (met == JOINS) {
                join(question);
            }
            return met;
        }

        int meetingBy(Question question, int someRule, int someLimit) {
            findRest(question);
            if (Space.firstIn(rest) < 0) {
                return SPANNED;
            }
            if (space.fixedBitsWith(rest) != 0) {
                return REFUSED;
            }
            boolean isForbidden = false;
            if (someRule == SIZED) {
                int size = question.size();
                isForbidden = size < 2 || size > 6;
            } else if (someRule == PAIRED) {
                trial.copyFrom(space);
                trial.join(rest);
                isForbidden = trial.hasPair();
            } else if (someRule == BUDGET) {
                isForbidden = rank + 1 > someLimit;
            }
            return isForbidden ? REFUSED : JOINS;
        }

        /** VARIABLES (bits) that would be FIXED, if it were in THE LEDGER. */
        int fixedBitsWith(Question question) {
            findRest(question);
            return space.fixedBitsWith(rest);
        }

        /** Joins it whatever the RULE, if it is not SPANNED. */
        void join(Question question) {
            findRest(question);
            if (Space.firstIn(rest) < 0 || !isWithin(rank, VARIABLES)) {
                return;
            }
            System.arraycopy(asked, 0, rows[rank], 0, VARIABLES);
            answers[rank] = trueAnswer(question);
            rank++;
            space.join(rest);
        }

        int trueAnswer(Question question) {
            int sum = 0;
            for (int person = 0; person < PEOPLE; person++) {
                int variable = owned[person];
                if (isWithin(variable, VARIABLES)) {
                    sum += question.weights[person] * values[variable];
                }
            }
            return sum;
        }

        private void findRest(Question question) {
            for (int variable = 0; variable < VARIABLES; variable++) {
                asked[variable] = 0;
            }
            for (int person = 0; person < PEOPLE; person++) {
                int variable = owned[person];
                if (isWithin(variable, VARIABLES)) {
                    asked[variable] = question.weights[person];
                }
            }
            space.leave(asked, rest);
        }
    }

    /** What each VARIABLE can be between, by its bounds and THE LEDGER. */
    private static final class Narrowing {
        private final int[] least = new int[VARIABLES];
        private final int[] most = new int[VARIABLES];
        private int variables;

        void narrow(World world) {
            variables = Math.min(world.variables, VARIABLES);
            for (int variable = 0; variable < variables; variable++) {
                least[variable] = world.lowOf(variable);
                most[variable] = world.highOf(variable);
            }
            boolean isMoving = true;
            for (int round = 0; round < NARROWING_ROUNDS && isMoving; round++) {
                isMoving = false;
                for (int i = 0; i < world.rank; i++) {
                    if (narrowByRow(world, i)) {
                        isMoving = true;
                    }
                }
            }
        }

        private boolean narrowByRow(World world, int i) {
            int lowEnds = 0;
            int highEnds = 0;
            for (int variable = 0; variable < variables; variable++) {
                int coefficient = world.coefficient(i, variable);
                lowEnds += lowEnd(coefficient, variable);
                highEnds += highEnd(coefficient, variable);
            }
            int answer = world.answerOf(i);
            boolean isMoving = false;
            for (int variable = 0; variable < variables; variable++) {
                int coefficient = world.coefficient(i, variable);
                if (coefficient == 0) {
                    continue;
                }
                int lowOfOthers = lowEnds - lowEnd(coefficient, variable);
                int highOfOthers = highEnds - highEnd(coefficient, variable);
                if (narrowOne(variable, coefficient, answer - highOfOthers, answer - lowOfOthers)) {
                    isMoving = true;
                }
                // what is narrowed counts at once
                lowEnds = lowOfOthers + lowEnd(coefficient, variable);
                highEnds = highOfOthers + highEnd(coefficient, variable);
            }
            return isMoving;
        }

        /** COEFFICIENT times the VARIABLE is not below low, not above high. */
        private boolean narrowOne(int variable, int coefficient, int low, int high) {
            if (!isWithin(variable, VARIABLES) || coefficient == 0) {
                return false;
            }
            int atLeast = -Math.floorDiv(coefficient > 0 ? -low : -high, coefficient);
            int atMost = Math.floorDiv(coefficient > 0 ? high : low, coefficient);
            boolean isMoving = false;
            if (atLeast > least[variable]) {
                least[variable] = atLeast;
                isMoving = true;
            }
            if (atMost < most[variable]) {
                most[variable] = atMost;
                isMoving = true;
            }
            return isMoving;
        }

        private int lowEnd(int coefficient, int variable) {
            return coefficient * (coefficient > 0 ? leastOf(variable) : mostOf(variable));
        }

        private int highEnd(int coefficient, int variable) {
            return coefficient * (coefficient > 0 ? mostOf(variable) : leastOf(variable));
        }

        int leastOf(int variable) {
            return isWithin(variable, VARIABLES) ? least[variable] : 0;
        }

        int mostOf(int variable) {
            return isWithin(variable, VARIABLES) ? most[variable] : 0;
        }

        int widthOf(int variable) {
            return mostOf(variable) - leastOf(variable) + 1;
        }

        int widths() {
            int sum = 0;
            for (int variable = 0; variable < variables; variable++) {
                sum += widthOf(variable);
            }
            return sum;
        }

        int narrowest() {
            int narrowest = 0;
            for (int variable = 1; variable < variables; variable++) {
                if (widthOf(variable) < widthOf(narrowest)) {
                    narrowest = variable;
                }
            }
            return narrowest;
        }

        int knownBits() {
            int bits = 0;
            for (int variable = 0; variable < variables; variable++) {
                if (widthOf(variable) == 1) {
                    bits |= 1 << variable;
                }
            }
            return bits;
        }
    }

    /** A GUARD told in letters. */
    private static final class Script {
        private Script() {
        }

        /** Performs all STATEMENTS in a world: how many; or the FAULT, then the world is half done. */
        static int perform(Numbers letters, World world, Question question) {
            int wrong = firstMisfit(letters);
            if (wrong >= 0) {
                return FAULT_OF_FORM - wrong;
            }
            int place = 0;
            int statements = 0;
            for (int step = 0; step < LETTER_ROOM && place < letters.size; step++) {
                if (!performOne(letters, place, world, question)) {
                    return FAULT_OF_SENSE - place;
                }
                place += digitsBehind(letters.at(place)) + 2;
                statements++;
            }
            return statements;
        }

        /** The place of the first letter that can't stand there, the end if something lacks, or -9. */
        private static int firstMisfit(Numbers letters) {
            int digitsDue = 0;
            boolean isInside = false;
            for (int place = 0; place < letters.size; place++) {
                int c = letters.at(place);
                if (!isInside) {
                    digitsDue = digitsBehind(c);
                    if (digitsDue == 0) {
                        return place;
                    }
                    isInside = true;
                } else if (digitsDue > 0) {
                    if (c < '0' || c > '9') {
                        return place;
                    }
                    digitsDue--;
                } else {
                    if (c != ';') {
                        return place;
                    }
                    isInside = false;
                }
            }
            return isInside || letters.size == 0 ? letters.size : NONE;
        }

        private static int digitsBehind(int c) {
            switch (c) {
                case 'r':
                    return 1;
                case 'l':
                    return 2;
                case 'v':
                case 'c':
                    return 3;
                case 'b':
                    return 6;
                case 's':
                case 'd':
                    return 8;
                case 'w':
                    return 9;
                default:
                    return 0;
            }
        }

        private static boolean performOne(Numbers letters, int place, World world, Question question) {
            switch (letters.at(place)) {
                case 'v':
                    return world.takeTold(digit(letters, place + 1), pair(letters, place + 2));
                case 'c':
                    return world.takeChange(digit(letters, place + 1), pair(letters, place + 2));
                case 'b':
                    return world.takeBounds(pair(letters, place + 1), pair(letters, place + 3),
                        pair(letters, place + 5));
                case 'r':
                    return world.takeRule(digit(letters, place + 1));
                case 'l':
                    return world.takeLimit(pair(letters, place + 1));
                default:
                    return readQuestion(letters, place, question) && world.takeQuestion(question) != REFUSED;
            }
        }

        private static boolean readQuestion(Numbers letters, int place, Question question) {
            int letter = letters.at(place);
            int kind = letter == 's' ? SUM : letter == 'd' ? DIFFERENCE : WEIGHED;
            int a = 0;
            int b = 0;
            for (int person = 0; person < PEOPLE; person++) {
                int digit = digit(letters, place + 1 + person);
                if (kind == DIFFERENCE && digit > 2) {
                    return false;
                }
                if (kind == DIFFERENCE && digit == 2) {
                    b |= 1 << person;
                } else if (digit != 0) {
                    a |= 1 << person;
                }
            }
            if (kind == WEIGHED) {
                b = digit(letters, place + 1 + PEOPLE);
            }
            if (Question.misfitOf(kind, a, b) != FITS) {
                return false;
            }
            question.make(kind, a, b);
            return true;
        }

        private static int digit(Numbers letters, int place) {
            return letters.at(place) - '0';
        }

        private static int pair(Numbers letters, int place) {
            return 10 * digit(letters, place) + digit(letters, place + 1);
        }
    }
}
