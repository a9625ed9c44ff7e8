import java.util.Random;

/**
 * Runs of calls by lot (with fixed seeds) on GuardOfSums and on SlowGuard; each answer is compared,
 * and behind each run all that can be seen.
 */
public final class RandomRunsTest {
    private static final int[] ODD = {Integer.MIN_VALUE, -1000000, -2, -1, 0, 1, 2, 3, 7, 8, 9, 10, 11,
        20, 21, 32, 96, 99, 100, 255, 256, 1000000, Integer.MAX_VALUE};
    private static final int KINDS_OF_CALLS = 40;

    private final Due due;
    private final Random lot;
    private final int heavy;
    private final GuardOfSums fast = new GuardOfSums();
    private final SlowGuard slow = new SlowGuard();
    private final StringBuilder told = new StringBuilder();

    private RandomRunsTest(Due due, long seed, int heavy) {
        this.due = due;
        this.lot = new Random(seed);
        this.heavy = heavy;
        told.append("run ").append(seed).append(": ");
    }

    public static void main(String[] args) {
        int runs = args.length > 0 ? Integer.parseInt(args[0]) : 120;
        int from = args.length > 1 ? Integer.parseInt(args[1]) : 0;
        Due due = new Due();
        for (int seed = from; seed < from + runs; seed++) {
            new RandomRunsTest(due, seed, seed % 3).run();
        }
        due.close("RandomRunsTest");
    }

    private void run() {
        for (int calls = 0; calls < 200; calls++) {
            call(lot.nextInt(KINDS_OF_CALLS));
        }
        lookAtAll();
    }

    private void same(String call, long got, long want) {
        told.append(call).append(' ');
        due.is(got == want ? call : told.toString(), got, want);
    }

    private int odd() {
        return ODD[lot.nextInt(ODD.length)];
    }

    /** Mostly a number between, sometimes an odd one. */
    private int number(int least, int greatest) {
        return lot.nextInt(25) == 0 ? odd() : least + lot.nextInt(greatest - least + 1);
    }

    private int sum() {
        return number(1, 255);
    }

    private void call(int kind) {
        switch (kind) {
            case 0: case 1: case 2: case 3: case 4: case 5: ask(); break;
            case 6: case 7: tells(); break;
            case 8: if (lot.nextInt(3) == 0) { changes(); } break;
            case 9: case 10: bounds(); break;
            case 11: rule(); break;
            case 12: limit(); break;
            case 13: case 14: would(); break;
            case 15: if (heavy == 0) { sums(); } break;
            case 16: ledger(); break;
            case 17: case 18: reduced(); break;
            case 19: same("pivots()", fast.pivots(), slow.pivots()); break;
            case 20: if (heavy == 0) { attack(); } break;
            case 21: same("known()", fast.known(), slow.known()); break;
            case 22: case 23: learns(); break;
            case 24: order(); break;
            case 25: two(); break;
            case 26: if (heavy == 0) { cheapestAndShare(); } break;
            case 27: mean(); break;
            case 28: which(); break;
            case 29: case 30: row(); break;
            case 31: judge(); break;
            case 32: lots(); break;
            case 33: if (lot.nextInt(3) == 0) { same("image()", fast.image(), slow.image()); } break;
            case 34: if (lot.nextInt(4) == 0) { same("on()", fast.on(), slow.on()); } break;
            case 35: count(number(-1, 17)); break;
            case 36: person(number(0, 7), number(0, 2)); break;
            case 37: variable(number(0, 9), number(0, 6)); break;
            case 38: letters(); break;
            default: if (lot.nextInt(4) == 0) { same("clear()", fast.clear(), slow.clear()); } break;
        }
    }

    private int secondOf(int kind, int a) {
        if (kind == 2) {
            return number(1, 3);
        }
        int b = sum();
        return lot.nextInt(5) == 0 ? b : b & ~a;
    }

    private void ask() {
        int kind = number(0, 2);
        int a = kind == 1 ? sum() & sum() : sum();
        int b = secondOf(kind, a);
        same("ask(" + kind + ", " + a + ", " + b + ")", fast.ask(kind, a, b), slow.ask(kind, a, b));
    }

    private void would() {
        int kind = number(0, 2);
        int a = sum();
        int b = secondOf(kind, a);
        same("would(" + kind + ", " + a + ", " + b + ")", fast.would(kind, a, b), slow.would(kind, a, b));
    }

    private void learns() {
        int kind = number(0, 2);
        int a = sum();
        int b = secondOf(kind, a);
        int what = number(0, 2);
        same("learns(" + kind + ", " + a + ", " + b + ", " + what + ")",
            fast.learns(kind, a, b, what), slow.learns(kind, a, b, what));
    }

    private void tells() {
        int person = number(0, 7);
        int v = number(0, 99);
        same("tells(" + person + ", " + v + ")", fast.tells(person, v), slow.tells(person, v));
    }

    private void changes() {
        int person = number(0, 7);
        int v = number(0, 99);
        same("changes(" + person + ", " + v + ")", fast.changes(person, v), slow.changes(person, v));
    }

    private void bounds() {
        int variable = number(0, 8);
        int value = Math.max(0, slow.variable(variable, 0));
        fast.variable(variable, 0);
        int low = lot.nextInt(8) == 0 ? number(0, 99) : number(0, value);
        int high = lot.nextInt(8) == 0 ? number(0, 99) : number(value, 99);
        same("bounds(" + variable + ", " + low + ", " + high + ")",
            fast.bounds(variable, low, high), slow.bounds(variable, low, high));
    }

    private void rule() {
        int rule = number(0, 3);
        same("rule(" + rule + ")", fast.rule(rule), slow.rule(rule));
    }

    private void limit() {
        int limit = number(0, 10);
        same("limit(" + limit + ")", fast.limit(limit), slow.limit(limit));
    }

    private void sums() {
        int what = number(0, 3);
        same("sums(" + what + ")", fast.sums(what), slow.sums(what));
    }

    private void ledger() {
        int i = number(0, 7);
        int variable = number(0, 9);
        same("ledger(" + i + ", " + variable + ")", fast.ledger(i, variable), slow.ledger(i, variable));
        same("answer(" + i + ")", fast.answer(i), slow.answer(i));
    }

    private void reduced() {
        int i = number(0, 7);
        int variable = number(0, 9);
        int part = number(0, 1);
        same("reduced(" + i + ", " + variable + ", " + part + ")",
            fast.reduced(i, variable, part), slow.reduced(i, variable, part));
    }

    private void attack() {
        int variable = number(0, 9);
        int what = number(0, 1);
        same("attack(" + variable + ", " + what + ")", fast.attack(variable, what), slow.attack(variable, what));
    }

    private void order() {
        int a = sum();
        int b = sum();
        int c = lot.nextInt(3) == 0 ? a ^ b : sum();
        int what = number(0, 1);
        same("order(" + a + ", " + b + ", " + c + ", " + what + ")",
            fast.order(a, b, c, what), slow.order(a, b, c, what));
    }

    private void two() {
        int a = sum();
        int b = lot.nextInt(3) == 0 ? a ^ 1 : sum();
        same("two(" + a + ", " + b + ")", fast.two(a, b), slow.two(a, b));
    }

    private void cheapestAndShare() {
        int what = number(0, 1);
        same("cheapest(" + what + ")", fast.cheapest(what), slow.cheapest(what));
        same("share(" + what + ")", fast.share(what), slow.share(what));
    }

    private void mean() {
        int part = number(0, 1);
        same("mean(" + part + ")", fast.mean(part), slow.mean(part));
    }

    private void which() {
        if (lot.nextBoolean()) {
            same("clear()", fast.clear(), slow.clear());
            int rule = slow.count(2);
            fast.rule(lot.nextInt(4));
            for (int pairs = lot.nextInt(5); pairs > 0; pairs--) {
                int a = 1 + lot.nextInt(255);
                int met = lot.nextInt(12) == 0 ? lot.nextInt(4) : fast.would(0, a, 0);
                same("row(" + a + ")", fast.row(a), slow.row(a));
                same("row(" + met + ")", fast.row(met), slow.row(met));
            }
            fast.rule(rule);
        }
        int what = number(0, 1);
        same("which(" + what + ")", fast.which(what), slow.which(what));
    }

    private void row() {
        int v = number(0, 255);
        same("row(" + v + ")", fast.row(v), slow.row(v));
    }

    private void judge() {
        if (lot.nextBoolean()) {
            same("clear()", fast.clear(), slow.clear());
            int told = lot.nextInt(12);
            for (int v = 0; v < told; v++) {
                int value = Math.max(0, slow.variable(v, 0));
                fast.variable(v, 0);
                int other = lot.nextInt(8) == 0 ? value + 1 : value;
                same("row(" + other + ")", fast.row(other), slow.row(other));
            }
        }
        same("judge()", fast.judge(), slow.judge());
    }

    private void lots() {
        int n = heavy == 2 ? lot.nextInt(3) : number(1, 20);
        int z = lot.nextBoolean() ? odd() : lot.nextInt();
        int what = number(0, 1);
        same("lots(" + n + ", " + z + ", " + what + ")", fast.lots(n, z, what), slow.lots(n, z, what));
    }

    private void count(int what) {
        same("count(" + what + ")", fast.count(what), slow.count(what));
    }

    private void person(int person, int what) {
        same("person(" + person + ", " + what + ")", fast.person(person, what), slow.person(person, what));
    }

    private void variable(int variable, int what) {
        same("variable(" + variable + ", " + what + ")",
            fast.variable(variable, what), slow.variable(variable, what));
    }

    private void letters() {
        if (lot.nextInt(12) == 0) {
            int c = odd();
            same("letter(" + c + ")", fast.letter(c), slow.letter(c));
        }
        StringBuilder text = new StringBuilder();
        for (int statements = lot.nextInt(5); statements > 0; statements--) {
            text.append(statement());
        }
        if (text.length() > 0 && lot.nextInt(3) == 0) {
            spoil(text);
        }
        for (int i = 0; i < text.length(); i++) {
            char c = text.charAt(i);
            same("letter(" + (int) c + ")", fast.letter(c), slow.letter(c));
        }
        if (lot.nextInt(4) != 0) {
            same("guard()", fast.guard(), slow.guard());
        }
    }

    private void spoil(StringBuilder text) {
        int place = lot.nextInt(text.length());
        switch (lot.nextInt(3)) {
            case 0:
                text.setLength(place);
                break;
            case 1:
                text.setCharAt(place, "vcbrlsdw;0123456789 /:\u00e9".charAt(lot.nextInt(23)));
                break;
            default:
                text.deleteCharAt(place);
                break;
        }
    }

    private String statement() {
        int value = lot.nextInt(100);
        switch (lot.nextInt(9)) {
            case 0: return String.format("v%d%02d;", rarely(8), value);
            case 1: return String.format("c%d%02d;", rarely(8), value);
            case 2: return String.format("b%02d%02d%02d;", lot.nextInt(10), lot.nextInt(30), 70 + lot.nextInt(30));
            case 3: return String.format("b%02d%02d%02d;", lot.nextInt(8), 0, value);
            case 4: return "r" + rarely(4) + ";";
            case 5: return String.format("l%02d;", rarely(11));
            case 6: return "s" + digits(2) + ";";
            case 7: return "d" + digits(3) + ";";
            default: return "w" + digits(2) + (lot.nextInt(8) == 0 ? lot.nextInt(10) : 1 + lot.nextInt(3)) + ";";
        }
    }

    /** Below it, and rarely at it. */
    private int rarely(int end) {
        return lot.nextInt(15) == 0 ? end : lot.nextInt(end);
    }

    private String digits(int kinds) {
        StringBuilder digits = new StringBuilder();
        for (int p = 0; p < 8; p++) {
            digits.append(lot.nextInt(60) == 0 ? lot.nextInt(10) : lot.nextInt(kinds));
        }
        return digits.toString();
    }

    private void lookAtAll() {
        for (int what = 0; what < 18; what++) {
            count(what);
        }
        for (int person = 0; person < 8; person++) {
            for (int what = 0; what < 3; what++) {
                person(person, what);
            }
        }
        for (int v = 0; v < 10; v++) {
            for (int what = 0; what < 7; what++) {
                variable(v, what);
            }
            for (int i = 0; i < 10; i++) {
                same("ledger", fast.ledger(i, v), slow.ledger(i, v));
                same("reduced above", fast.reduced(i, v, 0), slow.reduced(i, v, 0));
                same("reduced below", fast.reduced(i, v, 1), slow.reduced(i, v, 1));
            }
        }
        same("pivots()", fast.pivots(), slow.pivots());
    }
}
