import java.math.BigInteger;
import java.util.ArrayList;
import java.util.Arrays;
import java.util.List;
import java.util.regex.Matcher;
import java.util.regex.Pattern;

/**
 * The document once more, by its words alone and with no regard to speed: what GuardOfSums is
 * compared with. Spans are told by ranks, reduced rows by fractions, groups by trying all.
 */
final class SlowGuard {
    private static final Pattern GUARD = Pattern.compile(
        "(?:[vc]\\d{3};|b\\d{6};|r\\d;|l\\d\\d;|[sd]\\d{8};|w\\d{9};)+");
    private static final Pattern STATEMENT = Pattern.compile("([a-z])(\\d+);");

    private static final class State {
        int[] owned = {0, 1, 2, 3, 4, 5, 6, 7};
        List<int[]> variables = new ArrayList<>();
        List<int[]> rows = new ArrayList<>();
        List<Integer> answers = new ArrayList<>();
        int rule;
        int limit = 4;

        State copy() {
            State to = new State();
            to.owned = owned.clone();
            for (int[] variable : variables) {
                to.variables.add(variable.clone());
            }
            for (int[] row : rows) {
                to.rows.add(row.clone());
            }
            to.answers.addAll(answers);
            to.rule = rule;
            to.limit = limit;
            return to;
        }
    }

    private State now = new State();
    private State image;
    private String letters = "";
    private final List<Integer> told = new ArrayList<>();
    private final int[] refusals = new int[7];

    SlowGuard() {
        for (int i = 0; i < 8; i++) {
            now.variables.add(new int[] {0, 0, 99});
        }
    }

    // ---- refusals

    private int no(int refusal) {
        refusals[-refusal]++;
        return refusal;
    }

    private long longNo(int refusal) {
        return 4000000000000000000L - no(refusal);
    }

    private static int between(int number, int least, int greatest) {
        return number < least ? -4 : number > greatest ? -6 : 0;
    }

    private static int firstOf(int... refusals) {
        for (int refusal : refusals) {
            if (refusal != 0) {
                return refusal;
            }
        }
        return 0;
    }

    private static int unless(boolean fine, int refusal) {
        return fine ? 0 : refusal;
    }

    private static int cannot(int kind, int a, int b) {
        if (kind == 0) {
            return between(a, 1, 255);
        }
        if (kind != 1 && kind != 2) {
            return -2;
        }
        int greatest = kind == 1 ? 255 : 3;
        if (a < 1 || b < 1) {
            return -4;
        }
        if (a > 255 || b > greatest) {
            return -6;
        }
        return unless(kind == 2 || (a & b) == 0, -3);
    }

    private boolean isPerson(int person) {
        return person >= 0 && person <= 7;
    }

    private boolean isVariable(int variable) {
        return variable >= 0 && variable < now.variables.size();
    }

    private boolean isRow(int i) {
        return i >= 0 && i < now.rows.size();
    }

    // ---- rows and ranks

    private static int[] weights(int kind, int a, int b) {
        int[] weights = new int[8];
        for (int p = 0; p < 8; p++) {
            boolean inA = (a & 1 << p) != 0;
            boolean inB = (b & 1 << p) != 0;
            if (kind == 0) {
                weights[p] = inA ? 1 : 0;
            } else if (kind == 1) {
                weights[p] = inA ? 1 : inB ? -1 : 0;
            } else {
                weights[p] = inA ? p % b + 1 : 0;
            }
        }
        return weights;
    }

    private static int[] coefficients(State s, int[] weights) {
        int[] row = new int[10];
        for (int p = 0; p < 8; p++) {
            row[s.owned[p]] = weights[p];
        }
        return row;
    }

    private static int total(State s, int[] weights) {
        int sum = 0;
        for (int p = 0; p < 8; p++) {
            sum += weights[p] * s.variables.get(s.owned[p])[0];
        }
        return sum;
    }

    /** By this prime no minor of such rows is 0 that is not 0, for none is that great. */
    private static final long PRIME = 2147483647L;

    private static int rank(List<int[]> rows, int... without) {
        long[][] m = new long[rows.size()][10];
        for (int i = 0; i < m.length; i++) {
            for (int c = 0; c < 10; c++) {
                m[i][c] = Math.floorMod((long) rows.get(i)[c], PRIME);
            }
            for (int c : without) {
                m[i][c] = 0;
            }
        }
        int rank = 0;
        for (int c = 0; c < 10 && rank < m.length; c++) {
            int at = rank;
            while (at < m.length && m[at][c] == 0) {
                at++;
            }
            if (at == m.length) {
                continue;
            }
            long[] pivot = m[at];
            m[at] = m[rank];
            m[rank] = pivot;
            for (int i = rank + 1; i < m.length; i++) {
                long times = m[i][c];
                for (int k = c; k < 10 && times != 0; k++) {
                    m[i][k] = Math.floorMod(m[i][k] * pivot[c] - times * pivot[k] % PRIME, PRIME);
                }
            }
            rank++;
        }
        return rank;
    }

    private static List<int[]> with(List<int[]> rows, int[] row) {
        List<int[]> more = new ArrayList<>(rows);
        more.add(row);
        return more;
    }

    private static boolean isSpanned(List<int[]> rows, int[] row) {
        return rank(rows) == rank(with(rows, row));
    }

    private static boolean isFixed(List<int[]> rows, int variable) {
        int[] alone = new int[10];
        alone[variable] = 1;
        return isSpanned(rows, alone);
    }

    /** So much of the rows' space as stands in the two columns alone, less the FIXED ones in it. */
    private static boolean hasPair(List<int[]> rows) {
        int whole = rank(rows);
        for (int u = 0; u < 10; u++) {
            for (int v = u + 1; v < 10; v++) {
                int inBoth = whole - rank(rows, u, v);
                int fixed = (isFixed(rows, u) ? 1 : 0) + (isFixed(rows, v) ? 1 : 0);
                if (inBoth == 2 || inBoth == 1 && fixed == 0) {
                    return true;
                }
            }
        }
        return false;
    }

    private static int meets(State s, int[] weights, int rule, int limit) {
        int[] row = coefficients(s, weights);
        if (isSpanned(s.rows, row)) {
            return 0;
        }
        List<int[]> more = with(s.rows, row);
        for (int v = 0; v < s.variables.size(); v++) {
            if (isFixed(more, v)) {
                return 2;
            }
        }
        int size = 0;
        for (int weight : weights) {
            size += weight != 0 ? 1 : 0;
        }
        boolean forbidden = rule == 1 && (size < 2 || size > 6)
            || rule == 2 && hasPair(more)
            || rule == 3 && more.size() > limit;
        return forbidden ? 2 : 1;
    }

    private static int asks(State s, int[] weights) {
        int met = meets(s, weights, s.rule, s.limit);
        if (met == 1) {
            joins(s, weights);
        }
        return met;
    }

    private static void joins(State s, int[] weights) {
        s.rows.add(coefficients(s, weights));
        s.answers.add(total(s, weights));
    }

    private static boolean isFree(State s, int variable) {
        return s.rows.stream().allMatch(row -> row[variable] == 0);
    }

    // ---- telling

    int letter(int c) {
        int refusal = firstOf(between(c, 0, 255), unless(letters.length() < 96, -6));
        if (refusal != 0) {
            return no(refusal);
        }
        letters += (char) c;
        return letters.length();
    }

    int guard() {
        String text = letters;
        letters = "";
        for (int end = 1; end <= text.length(); end++) {
            Matcher ahead = GUARD.matcher(text.substring(0, end));
            if (!ahead.matches() && !ahead.hitEnd()) {
                return -1000 - (end - 1);
            }
        }
        if (!GUARD.matcher(text).matches()) {
            return -1000 - text.length();
        }
        State trial = now.copy();
        int statements = 0;
        for (Matcher m = STATEMENT.matcher(text); m.find(); statements++) {
            if (!performs(trial, m.group(1).charAt(0), m.group(2))) {
                return -2000 - m.start();
            }
        }
        now = trial;
        return statements;
    }

    private static boolean performs(State s, char letter, String digits) {
        int first = digits.charAt(0) - '0';
        switch (letter) {
            case 'v': {
                if (first > 7 || !isFree(s, s.owned[first])) {
                    return false;
                }
                s.variables.set(s.owned[first], new int[] {Integer.parseInt(digits.substring(1)), 0, 99});
                return true;
            }
            case 'c': {
                if (first > 7 || s.variables.size() == 10) {
                    return false;
                }
                s.owned[first] = s.variables.size();
                s.variables.add(new int[] {Integer.parseInt(digits.substring(1)), 0, 99});
                return true;
            }
            case 'b': {
                int variable = Integer.parseInt(digits.substring(0, 2));
                int low = Integer.parseInt(digits.substring(2, 4));
                int high = Integer.parseInt(digits.substring(4, 6));
                if (variable >= s.variables.size() || low > high) {
                    return false;
                }
                int[] it = s.variables.get(variable);
                if (it[0] < low || it[0] > high) {
                    return false;
                }
                it[1] = low;
                it[2] = high;
                return true;
            }
            case 'r':
                s.rule = first;
                return first <= 3;
            case 'l':
                s.limit = Integer.parseInt(digits);
                return s.limit <= 10;
            default: {
                int a = 0;
                int b = letter == 'w' ? digits.charAt(8) - '0' : 0;
                for (int p = 0; p < 8; p++) {
                    char digit = digits.charAt(p);
                    if (letter == 'd' && digit > '2') {
                        return false;
                    }
                    if (letter == 'd' && digit == '2') {
                        b += 1 << p;
                    } else if (digit != '0') {
                        a += 1 << p;
                    }
                }
                int kind = letter == 's' ? 0 : letter == 'd' ? 1 : 2;
                return cannot(kind, a, b) == 0 && asks(s, weights(kind, a, b)) != 2;
            }
        }
    }

    int person(int person, int what) {
        int refusal = firstOf(unless(isPerson(person), -1), unless(what >= 0 && what <= 2, -2));
        if (refusal != 0) {
            return no(refusal);
        }
        int variable = now.owned[person];
        return new int[] {now.variables.get(variable)[0], variable, isFree(now, variable) ? 1 : 0}[what];
    }

    int variable(int variable, int what) {
        int refusal = firstOf(unless(isVariable(variable), -1), unless(what >= 0 && what <= 6, -2));
        if (refusal != 0) {
            return no(refusal);
        }
        int[] it = now.variables.get(variable);
        int[] ends = narrowed(now)[variable];
        return new int[] {it[0], it[1], it[2], ends[0], ends[1], ends[1] - ends[0] + 1,
            isFree(now, variable) ? 1 : 0}[what];
    }

    int tells(int person, int v) {
        int refusal = firstOf(unless(isPerson(person), -1), between(v, 0, 99));
        if (refusal != 0) {
            return no(refusal);
        }
        int variable = now.owned[person];
        if (!isFree(now, variable)) {
            return no(-3);
        }
        return now.variables.set(variable, new int[] {v, 0, 99})[0];
    }

    int changes(int person, int v) {
        int refusal = firstOf(unless(isPerson(person), -1), between(v, 0, 99),
            unless(now.variables.size() < 10, -6));
        if (refusal != 0) {
            return no(refusal);
        }
        now.owned[person] = now.variables.size();
        now.variables.add(new int[] {v, 0, 99});
        return now.owned[person];
    }

    int bounds(int variable, int low, int high) {
        int refusal = firstOf(unless(isVariable(variable), -1), unless(low >= 0 && high >= 0, -4),
            unless(low <= 99 && high <= 99, -6));
        if (refusal != 0) {
            return no(refusal);
        }
        int[] it = now.variables.get(variable);
        if (low > it[0] || it[0] > high) {
            return no(-3);
        }
        it[1] = low;
        it[2] = high;
        return 1;
    }

    int rule(int rule) {
        if (rule < 0 || rule > 3) {
            return no(-2);
        }
        int old = now.rule;
        now.rule = rule;
        return old;
    }

    int limit(int n) {
        if (between(n, 0, 10) != 0) {
            return no(between(n, 0, 10));
        }
        int old = now.limit;
        now.limit = n;
        return old;
    }

    // ---- asking

    int ask(int kind, int a, int b) {
        int refusal = cannot(kind, a, b);
        if (refusal == 0 && asks(now, weights(kind, a, b)) == 2) {
            refusal = -5;
        }
        return refusal != 0 ? 1000000000 - no(refusal) : total(now, weights(kind, a, b));
    }

    int would(int kind, int a, int b) {
        int refusal = cannot(kind, a, b);
        return refusal != 0 ? no(refusal) : meets(now, weights(kind, a, b), now.rule, now.limit);
    }

    private int meetsSum(State s, int a) {
        return meets(s, weights(0, a, 0), s.rule, s.limit);
    }

    private List<Integer> sumsThat(int meeting) {
        List<Integer> found = new ArrayList<>();
        for (int a = 1; a <= 255; a++) {
            if (meetsSum(now, a) == meeting) {
                found.add(a);
            }
        }
        return found;
    }

    int sums(int what) {
        if (what < 0 || what > 3) {
            return no(-2);
        }
        if (what == 0) {
            List<Integer> joining = sumsThat(1);
            return joining.isEmpty() ? -9 : joining.get(0);
        }
        return sumsThat(what == 3 ? 0 : what).size();
    }

    int ledger(int i, int variable) {
        return isRow(i) && isVariable(variable) ? now.rows.get(i)[variable] + 100 : no(-1);
    }

    long answer(int i) {
        return isRow(i) ? now.answers.get(i) : longNo(-1);
    }

    /** Fractions of two numbers each, by elimination without thought; rows by their pivots. */
    private BigInteger[][][] reducedRows() {
        int rows = now.rows.size();
        BigInteger[][][] m = new BigInteger[rows][10][];
        for (int i = 0; i < rows; i++) {
            for (int c = 0; c < 10; c++) {
                m[i][c] = fraction(BigInteger.valueOf(now.rows.get(i)[c]), BigInteger.ONE);
            }
        }
        int done = 0;
        for (int c = 0; c < 10; c++) {
            int at = done;
            while (at < rows && m[at][c][0].signum() == 0) {
                at++;
            }
            if (at >= rows) {
                continue;
            }
            BigInteger[][] pivot = m[at];
            m[at] = m[done];
            m[done] = pivot;
            BigInteger[] lead = pivot[c];
            for (int k = 0; k < 10; k++) {
                pivot[k] = fraction(pivot[k][0].multiply(lead[1]), pivot[k][1].multiply(lead[0]));
            }
            for (int i = 0; i < rows; i++) {
                BigInteger[] times = m[i][c];
                for (int k = 0; k < 10 && i != done; k++) {
                    BigInteger[] taken = fraction(times[0].multiply(pivot[k][0]), times[1].multiply(pivot[k][1]));
                    m[i][k] = fraction(m[i][k][0].multiply(taken[1]).subtract(taken[0].multiply(m[i][k][1])),
                        m[i][k][1].multiply(taken[1]));
                }
            }
            done++;
        }
        return m;
    }

    private static BigInteger[] fraction(BigInteger above, BigInteger below) {
        if (above.signum() == 0 || below.signum() == 0) {
            return new BigInteger[] {BigInteger.ZERO, BigInteger.ONE};
        }
        BigInteger divisor = above.gcd(below);
        divisor = below.signum() < 0 ? divisor.negate() : divisor;
        return new BigInteger[] {above.divide(divisor), below.divide(divisor)};
    }

    private static long part(long above, long below, int part) {
        return fraction(BigInteger.valueOf(above), BigInteger.valueOf(below))[part].longValueExact();
    }

    long reduced(int i, int variable, int part) {
        int refusal = firstOf(unless(isRow(i) && isVariable(variable), -1), unless(part == 0 || part == 1, -2));
        return refusal != 0 ? longNo(refusal) : reducedRows()[i][variable][part].longValueExact();
    }

    int pivots() {
        int bits = 0;
        for (BigInteger[][] row : reducedRows()) {
            int c = 0;
            while (row[c][0].signum() == 0) {
                c++;
            }
            bits |= 1 << c;
        }
        return bits;
    }

    int attack(int variable, int what) {
        int refusal = firstOf(unless(isVariable(variable), -1), unless(what == 0 || what == 1, -2));
        if (refusal != 0) {
            return no(refusal);
        }
        List<Integer> fixing = new ArrayList<>();
        for (int a = 1; a <= 255; a++) {
            if (isFixed(with(now.rows, coefficients(now, weights(0, a, 0))), variable)) {
                fixing.add(a);
            }
        }
        return what == 1 ? fixing.size() : fixing.isEmpty() ? -9 : fixing.get(0);
    }

    // ---- what is learned

    private static int[][] narrowed(State s) {
        int[][] ends = new int[s.variables.size()][];
        for (int v = 0; v < ends.length; v++) {
            ends[v] = Arrays.copyOfRange(s.variables.get(v), 1, 3);
        }
        for (int round = 1; round <= 60; round++) {
            boolean changed = false;
            for (int i = 0; i < s.rows.size(); i++) {
                for (int v = 0; v < ends.length; v++) {
                    if (s.rows.get(i)[v] != 0 && narrowsOne(s.rows.get(i), s.answers.get(i), ends, v)) {
                        changed = true;
                    }
                }
            }
            if (!changed) {
                break;
            }
        }
        return ends;
    }

    /** Tries every whole number there is. */
    private static boolean narrowsOne(int[] row, int answer, int[][] ends, int v) {
        int least = 0;
        int greatest = 0;
        for (int other = 0; other < ends.length; other++) {
            if (other != v) {
                int one = row[other] * ends[other][0];
                int two = row[other] * ends[other][1];
                least += Math.min(one, two);
                greatest += Math.max(one, two);
            }
        }
        int low = Integer.MAX_VALUE;
        int high = Integer.MIN_VALUE;
        for (int x = ends[v][0]; x <= ends[v][1]; x++) {
            int others = answer - row[v] * x;
            if (others >= least && others <= greatest) {
                low = Math.min(low, x);
                high = Math.max(high, x);
            }
        }
        boolean changed = low != ends[v][0] || high != ends[v][1];
        ends[v][0] = low;
        ends[v][1] = high;
        return changed;
    }

    private static int knownIn(int[][] ends) {
        int bits = 0;
        for (int v = 0; v < ends.length; v++) {
            bits |= ends[v][0] == ends[v][1] ? 1 << v : 0;
        }
        return bits;
    }

    int known() {
        return knownIn(narrowed(now));
    }

    int learns(int kind, int a, int b, int what) {
        int refusal = firstOf(cannot(kind, a, b), unless(what >= 0 && what <= 2, -2));
        if (refusal != 0) {
            return no(refusal);
        }
        State mind = now.copy();
        if (!isSpanned(mind.rows, coefficients(mind, weights(kind, a, b)))) {
            joins(mind, weights(kind, a, b));
        }
        int[][] ends = narrowed(mind);
        int first = 0;
        for (int v = 0; v < ends.length; v++) {
            if (ends[v][1] - ends[v][0] < ends[first][1] - ends[first][0]) {
                first = v;
            }
        }
        return new int[] {ends[first][1] - ends[first][0] + 1, first, Integer.bitCount(knownIn(ends))}[what];
    }

    long mean(int part) {
        if (part != 0 && part != 1) {
            return longNo(-2);
        }
        int widths = 0;
        for (int[] ends : narrowed(now)) {
            widths += ends[1] - ends[0] + 1;
        }
        return part(widths, now.variables.size(), part);
    }

    // ---- several questions

    private static int sumsRefusal(int... sums) {
        for (int a : sums) {
            if (a < 1) {
                return -4;
            }
        }
        for (int a : sums) {
            if (a > 255) {
                return -6;
            }
        }
        return 0;
    }

    int order(int a, int b, int c, int what) {
        int refusal = firstOf(sumsRefusal(a, b, c), unless(what == 0 || what == 1, -2));
        if (refusal != 0) {
            return no(refusal);
        }
        int[] sums = {a, b, c};
        int most = -1;
        int best = 0;
        for (int[] places : new int[][] {{0, 1, 2}, {0, 2, 1}, {1, 0, 2}, {1, 2, 0}, {2, 0, 1}, {2, 1, 0}}) {
            State mind = now.copy();
            int joined = 0;
            for (int place : places) {
                joined += asks(mind, weights(0, sums[place], 0)) == 1 ? 1 : 0;
            }
            if (joined > most) {
                most = joined;
                best = 100 * places[0] + 10 * places[1] + places[2];
            }
        }
        return what == 0 ? best : most;
    }

    private int[] gains(int a, int b, int pair) {
        State mind = now.copy();
        int[] worth = {1, 3, -1};
        int one = pair >= 10 ? worth[asks(mind, weights(0, a, 0))] : 0;
        int other = pair % 10 == 1 ? worth[asks(mind, weights(0, b, 0))] : 0;
        return new int[] {one, other};
    }

    int two(int a, int b) {
        int refusal = sumsRefusal(a, b);
        if (refusal != 0) {
            return no(refusal);
        }
        for (int pair : new int[] {0, 1, 10, 11}) {
            int[] here = gains(a, b, pair);
            int otherOfOne = pair >= 10 ? pair - 10 : pair + 10;
            int otherOfOther = pair % 10 == 1 ? pair - 1 : pair + 1;
            if (gains(a, b, otherOfOne)[0] <= here[0] && gains(a, b, otherOfOther)[1] <= here[1]) {
                return pair;
            }
        }
        return -9;
    }

    int cheapest(int what) {
        if (what != 0 && what != 1) {
            return no(-2);
        }
        List<Integer> joining = sumsThat(1);
        for (int size = 1; size <= 8; size++) {
            for (int a : joining) {
                if (Integer.bitCount(a) == size) {
                    return what == 0 ? a : size;
                }
            }
        }
        return -9;
    }

    long share(int part) {
        return part != 0 && part != 1 ? longNo(-2) : part(255 - sumsThat(2).size(), 255, part);
    }

    int lots(int n, int z, int what) {
        int refusal = firstOf(between(n, 1, 20), unless(what == 0 || what == 1, -2));
        if (refusal != 0) {
            return no(refusal);
        }
        int[] met = new int[3];
        BigInteger seed = BigInteger.valueOf(z);
        for (int i = 0; i < n; i++) {
            State mind = now.copy();
            for (int asked = 0; asked < 8; asked++) {
                seed = seed.multiply(BigInteger.valueOf(1664525)).add(BigInteger.valueOf(1013904223));
                long drawn = seed.mod(BigInteger.ONE.shiftLeft(31)).longValue() / 256 % 255;
                met[asks(mind, weights(0, (int) drawn + 1, 0))]++;
            }
        }
        return what == 0 ? met[1] : met[2];
    }

    // ---- the row

    int row(int v) {
        int refusal = firstOf(between(v, 0, 255), unless(told.size() < 32, -6));
        if (refusal != 0) {
            return no(refusal);
        }
        told.add(v);
        return told.size();
    }

    int clear() {
        int had = told.size();
        told.clear();
        return had;
    }

    int which(int what) {
        if (what != 0 && what != 1) {
            return no(-2);
        }
        boolean whole = told.size() % 2 == 0;
        for (int i = 0; i < told.size(); i += 2) {
            whole &= told.get(i) != 0;
        }
        if (!whole) {
            return no(-3);
        }
        int bits = 0;
        for (int one = 0; one <= (what == 0 ? 3 : 10); one++) {
            boolean all = true;
            for (int i = 0; i < told.size() && all; i += 2) {
                all = told.get(i + 1) == meets(now, weights(0, told.get(i), 0),
                    what == 0 ? one : now.rule, what == 0 ? now.limit : one);
            }
            bits |= all ? 1 << one : 0;
        }
        return bits;
    }

    int judge() {
        int found = -9;
        for (int i = 0; i < now.rows.size() && found == -9; i++) {
            int sum = 0;
            for (int v = 0; v < now.variables.size(); v++) {
                sum += now.rows.get(i)[v] * (v < told.size() ? told.get(v) : now.variables.get(v)[0]);
            }
            if (sum != now.answers.get(i)) {
                found = i;
            }
        }
        told.clear();
        return found;
    }

    int image() {
        image = now.copy();
        return image.rows.size();
    }

    int on() {
        if (image == null) {
            return no(-3);
        }
        now = image.copy();
        return now.rows.size();
    }

    int count(int what) {
        switch (what) {
            case 0: return now.rows.size();
            case 1: return now.variables.size();
            case 2: return now.rule;
            case 3: return now.limit;
            case 4: {
                int bits = 0;
                for (int v = 0; v < now.variables.size(); v++) {
                    bits |= isFree(now, v) ? 0 : 1 << v;
                }
                return bits;
            }
            case 5: return total(now, new int[] {1, 1, 1, 1, 1, 1, 1, 1});
            case 6: return told.size();
            case 7: return letters.length();
            default: return what >= 11 && what <= 16 ? refusals[what - 10] : -9;
        }
    }
}
