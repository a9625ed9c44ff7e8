import java.util.ArrayList;
import java.util.List;

/**
 * REFUSALS of each promise: the least and the greatest number that is taken are told in the tests of
 * the edges; here stands each number beyond them, each two REFUSALS that would both be due, and
 * behind each refused call that all is as in a twin that was not called, but for one count.
 */
public final class RefusalsTest {
    private static final Due DUE = new Due();
    private static final int LEAST = Guards.LEAST;
    private static final int GREATEST = Guards.GREATEST;
    private static final int NOBODY = -1;
    private static final int OTHER = -2;
    private static final int STATE = -3;
    private static final int BELOW = -4;
    private static final int REFUSED = -5;
    private static final int ROOM = -6;

    private interface Call {
        long on(GuardOfSums x);
    }

    private interface Made {
        GuardOfSums make();
    }

    public static void main(String[] args) {
        letter();
        guard();
        person();
        variable();
        tells();
        changes();
        bounds();
        rule();
        limit();
        ask();
        would();
        sums();
        ledger();
        answer();
        reduced();
        attack();
        learns();
        order();
        two();
        cheapest();
        meanAndShare();
        which();
        row();
        lots();
        on();
        count();
        thoseWithout();
        counts();
        DUE.close("RefusalsTest");
    }

    /** Nothing is as at first; ten VARIABLES, an image of nine; an unwhole ROW, an unwhole text. */
    private static GuardOfSums busy() {
        GuardOfSums x = Guards.tens();
        x.bounds(0, 5, 15);
        x.ask(0, 7, 0);
        x.ask(1, 24, 32);
        x.changes(1, 66);
        x.bounds(8, 60, 70);
        x.rule(1);
        x.limit(9);
        x.image();
        x.rule(3);
        x.limit(5);
        x.changes(6, 33);
        x.ask(0, 66, 0);
        Guards.spell(x, "r2;l0");
        Guards.rowOf(x, 3, 1, 5);
        return x;
    }

    private static GuardOfSums roomless() {
        GuardOfSums x = busy();
        for (int i = x.count(7); i < 96; i++) {
            x.letter(';');
        }
        for (int i = x.count(6); i < 32; i++) {
            x.row(7);
        }
        return x;
    }

    private static GuardOfSums imageless() {
        GuardOfSums x = Guards.tens();
        x.ask(0, 3, 0);
        x.row(4);
        x.letter('r');
        return x;
    }

    private static List<Long> seen(GuardOfSums x) {
        List<Long> seen = new ArrayList<>();
        int variables = x.count(1);
        int rank = x.count(0);
        for (int what = 0; what < 8; what++) {
            seen.add((long) x.count(what));
        }
        for (int person = 0; person < 8; person++) {
            seen.add((long) x.person(person, 1));
        }
        for (int v = 0; v < variables; v++) {
            for (int what = 0; what < 5; what++) {
                seen.add((long) x.variable(v, what));
            }
            for (int i = 0; i < rank; i++) {
                seen.add((long) x.ledger(i, v));
                seen.add(x.reduced(i, v, 0));
                seen.add(x.reduced(i, v, 1));
            }
        }
        for (int i = 0; i < rank; i++) {
            seen.add(x.answer(i));
        }
        seen.add((long) x.pivots());
        for (int what = 0; what < 4; what++) {
            seen.add((long) x.sums(what));
        }
        addWhatIsUsedUp(x, seen);
        return seen;
    }

    private static void addWhatIsUsedUp(GuardOfSums x, List<Long> seen) {
        seen.add((long) x.judge());
        Guards.spell(x, "8;");
        seen.add((long) x.guard());
        seen.add((long) x.count(2));
        seen.add((long) x.count(3));
        seen.add((long) x.on());
        for (int what = 0; what < 6; what++) {
            seen.add((long) x.count(what));
        }
        for (int person = 0; person < 8; person++) {
            seen.add((long) x.person(person, 0));
        }
    }

    private static void refused(String call, Made state, Call called, int refusal, long told) {
        GuardOfSums x = state.make();
        GuardOfSums y = state.make();
        DUE.is(call, called.on(x), told);
        for (int kind = -1; kind >= -6; kind--) {
            DUE.is(call + ", how many " + kind, x.count(10 - kind), y.count(10 - kind) + (kind == refusal ? 1 : 0));
        }
        DUE.holds(call + " changes nothing else", seen(x).equals(seen(y)));
    }

    /** With the REFUSAL as answer. */
    private static void refused(String call, Call called, int refusal) {
        refused(call, RefusalsTest::busy, called, refusal, refusal);
    }

    private static void refused(String call, Made state, Call called, int refusal) {
        refused(call, state, called, refusal, refusal);
    }

    private static void askRefused(String call, Call called, int refusal) {
        refused(call, RefusalsTest::busy, called, refusal, 1000000000L - refusal);
    }

    private static void longRefused(String call, Call called, int refusal) {
        refused(call, RefusalsTest::busy, called, refusal, 4000000000000000000L - refusal);
    }

    private static void letter() {
        DUE.sentence("2 letter: -4; -6 (255; 96, too)");
        refused("letter(-1)", x -> x.letter(-1), BELOW);
        refused("letter(least)", x -> x.letter(LEAST), BELOW);
        refused("letter(256)", x -> x.letter(256), ROOM);
        refused("letter(greatest)", x -> x.letter(GREATEST), ROOM);
        refused("the 97th", RefusalsTest::roomless, x -> x.letter(59), ROOM);
        refused("the 97th below", RefusalsTest::roomless, x -> x.letter(-1), BELOW);
        refused("the 97th beyond", RefusalsTest::roomless, x -> x.letter(256), ROOM);
    }

    private static void guard() {
        DUE.sentence("3 guard: the FAULT (nothing is counted)");
        refused("a FAULT of kind 1", x -> Guards.guardOf(x, "1"), 0, 0, -1006);
        refused("a FAULT of kind 2", x -> Guards.guardOf(x, "1;v000;"), 0, 0, -2007);
        refused("a FAULT of kind 2", x -> Guards.guardOf(x, "1;c000;"), 0, 0, -2007);
        refused("a FAULT of kind 2", x -> Guards.guardOf(x, "1;s10000000;"), 0, 0, -2007);
    }

    /** The letters of busy() are read, so the twin reads them with a FAULT, too. */
    private static void refused(String call, Call called, int refusal, int unused, long told) {
        GuardOfSums x = busy();
        GuardOfSums y = busy();
        DUE.is(call, called.on(x), told);
        y.letter('x');
        y.guard();
        for (int kind = -1; kind >= -6; kind--) {
            DUE.is(call + ", how many " + kind, x.count(10 - kind), y.count(10 - kind));
        }
        DUE.holds(call + " changes nothing else", seen(x).equals(seen(y)));
    }

    private static void person() {
        DUE.sentence("4 person: -1; -2");
        refused("person(-1, 0)", x -> x.person(-1, 0), NOBODY);
        refused("person(8, 0)", x -> x.person(8, 0), NOBODY);
        refused("person(9, 1)", x -> x.person(9, 1), NOBODY);
        refused("person(least, 0)", x -> x.person(LEAST, 0), NOBODY);
        refused("person(greatest, 0)", x -> x.person(GREATEST, 0), NOBODY);
        refused("person(0, -1)", x -> x.person(0, -1), OTHER);
        refused("person(7, 3)", x -> x.person(7, 3), OTHER);
        refused("person(0, greatest)", x -> x.person(0, GREATEST), OTHER);
        refused("person(8, 3)", x -> x.person(8, 3), NOBODY);
        refused("person(-1, -1)", x -> x.person(-1, -1), NOBODY);
    }

    private static void variable() {
        DUE.sentence("5 variable: -1; -2");
        refused("variable(-1, 0)", x -> x.variable(-1, 0), NOBODY);
        refused("variable(10, 0)", x -> x.variable(10, 0), NOBODY);
        refused("variable(least, 6)", x -> x.variable(LEAST, 6), NOBODY);
        refused("variable(greatest, 3)", x -> x.variable(GREATEST, 3), NOBODY);
        refused("variable(8, 0) of eight", RefusalsTest::imageless, x -> x.variable(8, 0), NOBODY);
        refused("variable(9, -1)", x -> x.variable(9, -1), OTHER);
        refused("variable(0, 7)", x -> x.variable(0, 7), OTHER);
        refused("variable(0, least)", x -> x.variable(0, LEAST), OTHER);
        refused("variable(10, 7)", x -> x.variable(10, 7), NOBODY);
    }

    private static void tells() {
        DUE.sentence("6 tells: -1; -4; -6 99; -3 not FREE");
        refused("tells(8, 0)", x -> x.tells(8, 0), NOBODY);
        refused("tells(-1, 0)", x -> x.tells(-1, 0), NOBODY);
        refused("tells(least, 0)", x -> x.tells(LEAST, 0), NOBODY);
        refused("tells(7, -1)", x -> x.tells(7, -1), BELOW);
        refused("tells(7, 100)", x -> x.tells(7, 100), ROOM);
        refused("tells(7, greatest)", x -> x.tells(7, GREATEST), ROOM);
        refused("tells(0, 10)", x -> x.tells(0, 10), STATE);
        refused("tells(5, 0), which is in it by -1", x -> x.tells(5, 0), STATE);
        refused("tells(6, 0), in it by its new VARIABLE", x -> x.tells(6, 0), STATE);
        refused("tells(8, -1)", x -> x.tells(8, -1), NOBODY);
        refused("tells(8, 100)", x -> x.tells(8, 100), NOBODY);
        refused("tells(0, -1), not FREE", x -> x.tells(0, -1), BELOW);
        refused("tells(0, 100), not FREE", x -> x.tells(0, 100), ROOM);
    }

    private static void changes() {
        DUE.sentence("7 changes: -1; -4; -6 (99; no VARIABLE left)");
        refused("changes(8, 0)", RefusalsTest::imageless, x -> x.changes(8, 0), NOBODY);
        refused("changes(-1, 0)", RefusalsTest::imageless, x -> x.changes(-1, 0), NOBODY);
        refused("changes(0, -1)", RefusalsTest::imageless, x -> x.changes(0, -1), BELOW);
        refused("changes(0, 100)", RefusalsTest::imageless, x -> x.changes(0, 100), ROOM);
        refused("changes(8, -1)", RefusalsTest::imageless, x -> x.changes(8, -1), NOBODY);
        refused("changes(8, 100)", RefusalsTest::imageless, x -> x.changes(8, 100), NOBODY);
        refused("changes(0, 5), no VARIABLE left", x -> x.changes(0, 5), ROOM);
        refused("changes(8, 5), no VARIABLE left", x -> x.changes(8, 5), NOBODY);
        refused("changes(0, -1), no VARIABLE left", x -> x.changes(0, -1), BELOW);
        refused("changes(0, 100), no VARIABLE left", x -> x.changes(0, 100), ROOM);
    }

    private static void bounds() {
        DUE.sentence("8 bounds: -1; -4 either; -6 (99 either); -3 VALUE not between");
        refused("bounds(10, 0, 99)", x -> x.bounds(10, 0, 99), NOBODY);
        refused("bounds(-1, 0, 99)", x -> x.bounds(-1, 0, 99), NOBODY);
        refused("bounds(8, 0, 99) of eight", RefusalsTest::imageless, x -> x.bounds(8, 0, 99), NOBODY);
        refused("bounds(0, -1, 99)", x -> x.bounds(0, -1, 99), BELOW);
        refused("bounds(0, 0, -1)", x -> x.bounds(0, 0, -1), BELOW);
        refused("bounds(0, 0, 100)", x -> x.bounds(0, 0, 100), ROOM);
        refused("bounds(0, 100, 99)", x -> x.bounds(0, 100, 99), ROOM);
        refused("bounds(0, 11, 99)", x -> x.bounds(0, 11, 99), STATE);
        refused("bounds(0, 0, 9)", x -> x.bounds(0, 0, 9), STATE);
        refused("bounds(0, 11, 9)", x -> x.bounds(0, 11, 9), STATE);
        refused("bounds(9, 34, 99)", x -> x.bounds(9, 34, 99), STATE);
        refused("bounds(10, -1, 99)", x -> x.bounds(10, -1, 99), NOBODY);
        refused("bounds(10, 0, 100)", x -> x.bounds(10, 0, 100), NOBODY);
        refused("bounds(0, -1, 100)", x -> x.bounds(0, -1, 100), BELOW);
        refused("bounds(0, 100, -1)", x -> x.bounds(0, 100, -1), BELOW);
        refused("bounds(0, -1, 9)", x -> x.bounds(0, -1, 9), BELOW);
        refused("bounds(0, 11, -1)", x -> x.bounds(0, 11, -1), BELOW);
        refused("bounds(0, 11, 100)", x -> x.bounds(0, 11, 100), ROOM);
        refused("bounds(0, 100, 9)", x -> x.bounds(0, 100, 9), ROOM);
        refused("bounds(0, least, greatest)", x -> x.bounds(0, LEAST, GREATEST), BELOW);
        refused("bounds(0, greatest, greatest)", x -> x.bounds(0, GREATEST, GREATEST), ROOM);
    }

    private static void rule() {
        DUE.sentence("9 rule: -2");
        refused("rule(4)", x -> x.rule(4), OTHER);
        refused("rule(-1)", x -> x.rule(-1), OTHER);
        refused("rule(least)", x -> x.rule(LEAST), OTHER);
        refused("rule(greatest)", x -> x.rule(GREATEST), OTHER);
    }

    private static void limit() {
        DUE.sentence("10 limit: -4; -6 10");
        refused("limit(-1)", x -> x.limit(-1), BELOW);
        refused("limit(least)", x -> x.limit(LEAST), BELOW);
        refused("limit(11)", x -> x.limit(11), ROOM);
        refused("limit(greatest)", x -> x.limit(GREATEST), ROOM);
    }

    /** A QUESTION that can't be, kind by kind: all that is refused ahead of THE GUARD. */
    private static final int[][] UNASKABLE = {
        {3, 1, 1, OTHER}, {-1, 1, 1, OTHER}, {GREATEST, 1, 1, OTHER}, {LEAST, 1, 1, OTHER},
        {3, 0, 0, OTHER}, {3, 256, 256, OTHER}, {-1, 1, 1, OTHER}, {4, -1, 256, OTHER},
        {0, 0, 5, BELOW}, {0, -1, 5, BELOW}, {0, LEAST, 5, BELOW}, {0, 256, 5, ROOM}, {0, GREATEST, 5, ROOM},
        {0, 0, 256, BELOW}, {0, 256, 0, ROOM},
        {1, 0, 1, BELOW}, {1, 1, 0, BELOW}, {1, 0, 0, BELOW}, {1, 256, 1, ROOM}, {1, 1, 256, ROOM},
        {1, 0, 256, BELOW}, {1, 256, 0, BELOW}, {1, LEAST, GREATEST, BELOW}, {1, GREATEST, LEAST, BELOW},
        {1, 1, 1, STATE}, {1, 255, 128, STATE}, {1, 3, 6, STATE},
        {1, -1, 1, BELOW}, {1, 1, -1, BELOW}, {1, 257, 1, ROOM}, {1, 1, 257, ROOM}, {1, 511, 511, ROOM},
        {2, 0, 1, BELOW}, {2, 1, 0, BELOW}, {2, 256, 1, ROOM}, {2, 1, 4, ROOM}, {2, 3, 256, ROOM},
        {2, 0, 4, BELOW}, {2, 256, 0, BELOW}, {2, GREATEST, LEAST, BELOW}, {2, LEAST, GREATEST, BELOW},
        {2, 256, 4, ROOM}};

    private static String told(String call, int[] q) {
        return call + "(" + q[0] + ", " + q[1] + ", " + q[2] + ")";
    }

    private static void ask() {
        DUE.sentence("11 ask: -2; -4, -6, -3 (it can't be); -5");
        for (int[] q : UNASKABLE) {
            askRefused(told("ask", q), x -> x.ask(q[0], q[1], q[2]), q[3]);
        }
        askRefused("one alone", x -> x.ask(0, 128, 0), REFUSED);
        askRefused("the greatest b that is taken", x -> x.ask(2, 128, 3), REFUSED);
        refused("by BUDGET", () -> {
            GuardOfSums x = busy();
            x.limit(3);
            return x;
        }, x -> x.ask(0, 255, 0), REFUSED, 1000000005);
    }

    private static void would() {
        DUE.sentence("12 would: -2; -4, -6, -3 (it can't be)");
        for (int[] q : UNASKABLE) {
            refused(told("would", q), x -> x.would(q[0], q[1], q[2]), q[3]);
        }
    }

    private static void sums() {
        DUE.sentence("13 sums: -2");
        refused("sums(4)", x -> x.sums(4), OTHER);
        refused("sums(-1)", x -> x.sums(-1), OTHER);
        refused("sums(least)", x -> x.sums(LEAST), OTHER);
        refused("sums(greatest)", x -> x.sums(GREATEST), OTHER);
    }

    private static void ledger() {
        DUE.sentence("14 ledger: -1 either");
        refused("ledger(3, 0)", x -> x.ledger(3, 0), NOBODY);
        refused("ledger(-1, 0)", x -> x.ledger(-1, 0), NOBODY);
        refused("ledger(0, 10)", x -> x.ledger(0, 10), NOBODY);
        refused("ledger(0, -1)", x -> x.ledger(0, -1), NOBODY);
        refused("ledger(3, 10)", x -> x.ledger(3, 10), NOBODY);
        refused("ledger(least, greatest)", x -> x.ledger(LEAST, GREATEST), NOBODY);
        refused("ledger(0, 8) of eight", RefusalsTest::imageless, x -> x.ledger(0, 8), NOBODY);
        refused("ledger(0, 0) of none", GuardOfSums::new, x -> x.ledger(0, 0), NOBODY);
    }

    private static void answer() {
        DUE.sentence("15 answer: -1, refused as told");
        longRefused("answer(3)", x -> x.answer(3), NOBODY);
        longRefused("answer(-1)", x -> x.answer(-1), NOBODY);
        longRefused("answer(least)", x -> x.answer(LEAST), NOBODY);
        longRefused("answer(greatest)", x -> x.answer(GREATEST), NOBODY);
        refused("answer(0) of none", GuardOfSums::new, x -> x.answer(0), NOBODY, Guards.LONG_NOBODY);
    }

    private static void reduced() {
        DUE.sentence("16 reduced: -1 either; -2, refused as told");
        longRefused("reduced(3, 0, 0)", x -> x.reduced(3, 0, 0), NOBODY);
        longRefused("reduced(-1, 0, 1)", x -> x.reduced(-1, 0, 1), NOBODY);
        longRefused("reduced(0, 10, 0)", x -> x.reduced(0, 10, 0), NOBODY);
        longRefused("reduced(0, -1, 0)", x -> x.reduced(0, -1, 0), NOBODY);
        longRefused("reduced(0, 0, 2)", x -> x.reduced(0, 0, 2), OTHER);
        longRefused("reduced(0, 0, -1)", x -> x.reduced(0, 0, -1), OTHER);
        longRefused("reduced(0, 0, greatest)", x -> x.reduced(0, 0, GREATEST), OTHER);
        longRefused("reduced(3, 0, 2)", x -> x.reduced(3, 0, 2), NOBODY);
        longRefused("reduced(0, 10, 2)", x -> x.reduced(0, 10, 2), NOBODY);
    }

    private static void attack() {
        DUE.sentence("18 attack: -1; -2");
        refused("attack(10, 0)", x -> x.attack(10, 0), NOBODY);
        refused("attack(-1, 0)", x -> x.attack(-1, 0), NOBODY);
        refused("attack(greatest, 1)", x -> x.attack(GREATEST, 1), NOBODY);
        refused("attack(8, 0) of eight", RefusalsTest::imageless, x -> x.attack(8, 0), NOBODY);
        refused("attack(0, 2)", x -> x.attack(0, 2), OTHER);
        refused("attack(0, -1)", x -> x.attack(0, -1), OTHER);
        refused("attack(10, 2)", x -> x.attack(10, 2), NOBODY);
    }

    private static void learns() {
        DUE.sentence("20 learns: -2 (KIND); -4, -6, -3 (it can't be); -2");
        for (int[] q : UNASKABLE) {
            refused(told("learns", q), x -> x.learns(q[0], q[1], q[2], 0), q[3]);
            refused(told("learns, no such what", q), x -> x.learns(q[0], q[1], q[2], 3), q[3]);
        }
        refused("learns(0, 3, 0, 3)", x -> x.learns(0, 3, 0, 3), OTHER);
        refused("learns(0, 3, 0, -1)", x -> x.learns(0, 3, 0, -1), OTHER);
        refused("learns(1, 1, 2, least)", x -> x.learns(1, 1, 2, LEAST), OTHER);
    }

    private static void order() {
        DUE.sentence("21 order: -4 any; -6 255 any; -2");
        refused("order(0, 1, 1, 0)", x -> x.order(0, 1, 1, 0), BELOW);
        refused("order(1, 0, 1, 0)", x -> x.order(1, 0, 1, 0), BELOW);
        refused("order(1, 1, 0, 1)", x -> x.order(1, 1, 0, 1), BELOW);
        refused("order(256, 1, 1, 0)", x -> x.order(256, 1, 1, 0), ROOM);
        refused("order(1, 256, 1, 0)", x -> x.order(1, 256, 1, 0), ROOM);
        refused("order(1, 1, 256, 1)", x -> x.order(1, 1, 256, 1), ROOM);
        refused("order(1, 1, 1, 2)", x -> x.order(1, 1, 1, 2), OTHER);
        refused("order(1, 1, 1, -1)", x -> x.order(1, 1, 1, -1), OTHER);
        refused("order(256, 1, 0, 0)", x -> x.order(256, 1, 0, 0), BELOW);
        refused("order(0, 256, 256, 2)", x -> x.order(0, 256, 256, 2), BELOW);
        refused("order(1, 256, 1, 2)", x -> x.order(1, 256, 1, 2), ROOM);
        refused("order(1, 1, 0, 2)", x -> x.order(1, 1, 0, 2), BELOW);
        refused("order(least, 1, greatest, 0)", x -> x.order(LEAST, 1, GREATEST, 0), BELOW);
        refused("order(greatest, 1, 1, 0)", x -> x.order(GREATEST, 1, 1, 0), ROOM);
    }

    private static void two() {
        DUE.sentence("22 two: -4 either; -6 255");
        refused("two(0, 1)", x -> x.two(0, 1), BELOW);
        refused("two(1, 0)", x -> x.two(1, 0), BELOW);
        refused("two(256, 1)", x -> x.two(256, 1), ROOM);
        refused("two(1, 256)", x -> x.two(1, 256), ROOM);
        refused("two(0, 256)", x -> x.two(0, 256), BELOW);
        refused("two(256, 0)", x -> x.two(256, 0), BELOW);
        refused("two(greatest, least)", x -> x.two(GREATEST, LEAST), BELOW);
        refused("two(greatest, greatest)", x -> x.two(GREATEST, GREATEST), ROOM);
    }

    private static void cheapest() {
        DUE.sentence("23 cheapest: -2");
        refused("cheapest(2)", x -> x.cheapest(2), OTHER);
        refused("cheapest(-1)", x -> x.cheapest(-1), OTHER);
        refused("cheapest(greatest)", x -> x.cheapest(GREATEST), OTHER);
    }

    private static void meanAndShare() {
        DUE.sentence("24 mean, 25 share: -2, refused as told");
        longRefused("mean(2)", x -> x.mean(2), OTHER);
        longRefused("mean(-1)", x -> x.mean(-1), OTHER);
        longRefused("mean(least)", x -> x.mean(LEAST), OTHER);
        longRefused("share(2)", x -> x.share(2), OTHER);
        longRefused("share(-1)", x -> x.share(-1), OTHER);
        longRefused("share(greatest)", x -> x.share(GREATEST), OTHER);
    }

    private static GuardOfSums pairs() {
        GuardOfSums x = busy();
        x.row(2);
        return x;
    }

    private static GuardOfSums pairsOfNobody() {
        GuardOfSums x = busy();
        Guards.rowOf(x, 3, 1, 0, 1);
        return x;
    }

    private static void which() {
        DUE.sentence("26 which: -2; -3 unwhole, or an a that is 0");
        refused("which(2)", RefusalsTest::pairs, x -> x.which(2), OTHER);
        refused("which(-1)", RefusalsTest::pairs, x -> x.which(-1), OTHER);
        refused("which(0), unwhole", x -> x.which(0), STATE);
        refused("which(1), unwhole", x -> x.which(1), STATE);
        refused("which(0), an a that is 0", RefusalsTest::pairsOfNobody, x -> x.which(0), STATE);
        refused("which(1), an a that is 0", RefusalsTest::pairsOfNobody, x -> x.which(1), STATE);
        refused("which(2), unwhole", x -> x.which(2), OTHER);
        refused("which(-1), an a that is 0", RefusalsTest::pairsOfNobody, x -> x.which(-1), OTHER);
    }

    private static void row() {
        DUE.sentence("27 row: -4; -6 (255; 32, too)");
        refused("row(-1)", x -> x.row(-1), BELOW);
        refused("row(least)", x -> x.row(LEAST), BELOW);
        refused("row(256)", x -> x.row(256), ROOM);
        refused("row(greatest)", x -> x.row(GREATEST), ROOM);
        refused("the 33rd", RefusalsTest::roomless, x -> x.row(0), ROOM);
        refused("the 33rd below", RefusalsTest::roomless, x -> x.row(-1), BELOW);
        refused("the 33rd beyond", RefusalsTest::roomless, x -> x.row(256), ROOM);
    }

    private static void lots() {
        DUE.sentence("30 lots: -4; -6 20; -2");
        refused("lots(0, 1, 0)", x -> x.lots(0, 1, 0), BELOW);
        refused("lots(least, 1, 0)", x -> x.lots(LEAST, 1, 0), BELOW);
        refused("lots(21, 1, 0)", x -> x.lots(21, 1, 0), ROOM);
        refused("lots(greatest, 1, 1)", x -> x.lots(GREATEST, 1, 1), ROOM);
        refused("lots(1, 1, 2)", x -> x.lots(1, 1, 2), OTHER);
        refused("lots(20, 1, -1)", x -> x.lots(20, 1, -1), OTHER);
        refused("lots(0, 1, 2)", x -> x.lots(0, 1, 2), BELOW);
        refused("lots(21, 1, 2)", x -> x.lots(21, 1, 2), ROOM);
    }

    private static void on() {
        DUE.sentence("32 on: -3 there is none");
        refused("on()", RefusalsTest::imageless, GuardOfSums::on, STATE);
        refused("on() of a new one", GuardOfSums::new, GuardOfSums::on, STATE);
    }

    private static void count() {
        DUE.sentence("33 count: -9 for another what");
        int[] others = {-1, 8, 9, 10, 17, LEAST, GREATEST};
        for (int what : others) {
            refused("count(" + what + ")", RefusalsTest::busy, x -> x.count(what), 0, -9);
        }
    }

    /** Looks: they change nothing, and are no REFUSALS. */
    private static void thoseWithout() {
        DUE.sentence("what looks changes nothing");
        refused("pivots()", RefusalsTest::busy, GuardOfSums::pivots, 0, busy().pivots());
        refused("known()", RefusalsTest::busy, GuardOfSums::known, 0, busy().known());
        refused("would(0, 128, 0)", RefusalsTest::busy, x -> x.would(0, 128, 0), 0, 2);
        refused("learns(0, 128, 0, 1)", RefusalsTest::busy, x -> x.learns(0, 128, 0, 1), 0, 7);
        refused("order(1, 2, 4, 1)", RefusalsTest::busy, x -> x.order(1, 2, 4, 1), 0, 0);
        refused("order(136, 24, 144, 1)", RefusalsTest::busy, x -> x.order(136, 24, 144, 1), 0,
            busy().order(136, 24, 144, 1));
        refused("two(1, 2)", RefusalsTest::busy, x -> x.two(1, 2), 0, 0);
        refused("attack(7, 0)", RefusalsTest::busy, x -> x.attack(7, 0), 0, 128);
        refused("cheapest(0)", RefusalsTest::busy, x -> x.cheapest(0), 0, busy().cheapest(0));
        refused("mean(0)", RefusalsTest::busy, x -> x.mean(0), 0, busy().mean(0));
        refused("share(0)", RefusalsTest::busy, x -> x.share(0), 0, busy().share(0));
        refused("which(0)", RefusalsTest::pairs, x -> x.which(0), 0, pairs().which(0));
        refused("which(1)", RefusalsTest::pairs, x -> x.which(1), 0, pairs().which(1));
        refused("lots(20, 77, 0)", RefusalsTest::busy, x -> x.lots(20, 77, 0), 0, busy().lots(20, 77, 0));
        refused("a SPANNED one", RefusalsTest::busy, x -> x.ask(0, 66, 0), 0, 99);
    }

    private static void counts() {
        DUE.sentence("REFUSALS: nothing changes but how many there were");
        GuardOfSums x = new GuardOfSums();
        for (int i = 0; i < 500; i++) {
            x.person(8, 3);
        }
        DUE.is("five hundred", x.count(11), 500);
        DUE.is("the second that would be due is not counted", x.count(12), 0);
        GuardOfSums y = new GuardOfSums();
        for (int kind = 1; kind <= 6; kind++) {
            for (int i = 0; i < kind; i++) {
                refuse(y, kind);
            }
        }
        for (int kind = 1; kind <= 6; kind++) {
            DUE.is("-" + kind, y.count(10 + kind), kind);
        }
    }

    private static void refuse(GuardOfSums x, int kind) {
        switch (kind) {
            case 1: x.answer(0); break;
            case 2: x.share(9); break;
            case 3: x.on(); break;
            case 4: x.limit(-5); break;
            case 5: x.ask(0, 1, 0); break;
            default: x.row(256); break;
        }
    }
}
