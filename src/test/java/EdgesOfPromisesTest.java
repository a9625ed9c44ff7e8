/**
 * Promise by promise: the least and the greatest argument that is taken, each what, the empty and
 * the full. What is refused stands in RefusalsTest.
 */
public final class EdgesOfPromisesTest {
    private static final Due DUE = new Due();

    public static void main(String[] args) {
        newObject();
        letter();
        guard();
        person();
        variable();
        tells();
        changes();
        bounds();
        rule();
        limit();
        ask();
        would();
        sums();
        ledger();
        answer();
        reduced();
        pivots();
        attack();
        known();
        learns();
        order();
        two();
        cheapest();
        mean();
        share();
        which();
        row();
        judge();
        clear();
        lots();
        imageAndOn();
        count();
        fiveHundredCalls();
        DUE.close("EdgesOfPromisesTest");
    }

    private static void sentence(String words) {
        DUE.sentence(words);
    }

    private static void due(String call, long got, long want) {
        DUE.is(call, got, want);
    }

    private static void newObject() {
        sentence("1: PEOPLE with VARIABLES 0 .. 7, VALUES 0, RULE 0, LIMIT 4, THE LEDGER empty");
        GuardOfSums x = new GuardOfSums();
        int[] counts = {0, 8, 0, 4, 0, 0, 0, 0};
        for (int what = 0; what < 8; what++) {
            due("count " + what, x.count(what), counts[what]);
        }
        for (int what = 11; what <= 16; what++) {
            due("count " + what, x.count(what), 0);
        }
        GuardOfSums y = new GuardOfSums();
        y.tells(0, 50);
        y.limit(0);
        due("each for itself", x.person(0, 0), 0);
        due("each for itself", new GuardOfSums().count(3), 4);
    }

    private static void letter() {
        sentence("2: how many there are");
        GuardOfSums x = new GuardOfSums();
        due("the first", x.letter(0), 1);
        for (int i = 2; i < 96; i++) {
            x.letter(255);
        }
        due("the 96th", x.letter(255), 96);
    }

    private static void guard() {
        sentence("3: how many STATEMENTS; the FAULT");
        due("the least", Guards.guardOf(new GuardOfSums(), "r0;"), 1);
        due("none", new GuardOfSums().guard(), -1000);
        due("the greatest", Guards.guardOf(new GuardOfSums(), "r0;".repeat(32)), 32);
        due("the greatest place of kind 1", Guards.guardOf(new GuardOfSums(), "r0;".repeat(31) + "l00"), -1096);
        due("the greatest place of kind 2", Guards.guardOf(new GuardOfSums(), "r0;".repeat(31) + "r4;"), -2093);
    }

    private static void person() {
        sentence("4: 0 VALUE, 1 VARIABLE, 2 FREE (of that)");
        GuardOfSums x = Guards.full();
        int[][] want = {{10, 0, 0}, {20, 1, 0}, {30, 2, 0}, {40, 3, 0}, {50, 4, 0}, {60, 5, 0}, {7, 9, 0}, {5, 8, 0}};
        for (int person = 0; person < 8; person++) {
            for (int what = 0; what < 3; what++) {
                due(person + ", " + what, x.person(person, what), want[person][what]);
            }
        }
        due("FREE", Guards.nearlyFull().person(6, 2), 1);
    }

    private static void variable() {
        sentence("5: 0 VALUE, 1 LOW, 2 HIGH, 3 LEAST, 4 MOST, 5 WIDTH, 6 FREE (1, 0)");
        GuardOfSums x = Guards.full();
        x.bounds(9, 0, 27);
        // differences: 7 of VARIABLE 9 is at most 27, so 80 of VARIABLE 7 at most 100, 5 of 8 at most 25;
        // VARIABLE 8 is 0 at least, 9 is 2 more
        int[] nine = {7, 0, 27, 2, 26, 25, 0};
        int[] seven = {80, 0, 99, 75, 99, 25, 0};
        int[] eight = {5, 0, 99, 0, 24, 25, 0};
        for (int what = 0; what < 7; what++) {
            due("9, " + what, x.variable(9, what), nine[what]);
            due("7, " + what, x.variable(7, what), seven[what]);
            due("8, " + what, x.variable(8, what), eight[what]);
        }
        due("FREE", new GuardOfSums().variable(7, 6), 1);
    }

    private static void tells() {
        sentence("6: VALUE it was");
        GuardOfSums x = new GuardOfSums();
        due("person 0", x.tells(0, 99), 0);
        due("person 7", x.tells(7, 1), 0);
        due("person 0", x.tells(0, 0), 99);
        due("person 7", x.tells(7, 1), 1);
    }

    private static void changes() {
        sentence("7: the new VARIABLE");
        GuardOfSums x = new GuardOfSums();
        due("person 0", x.changes(0, 0), 8);
        due("person 7", x.changes(7, 99), 9);
    }

    private static void bounds() {
        sentence("8: BOUNDS: 1");
        GuardOfSums x = Guards.of(0, 99);
        due("the narrowest below", x.bounds(0, 0, 0), 1);
        due("the narrowest above", x.bounds(1, 99, 99), 1);
        due("the widest", x.bounds(1, 0, 99), 1);
        x.changes(0, 50);
        x.changes(0, 50);
        due("VARIABLE 9", x.bounds(9, 50, 50), 1);
    }

    private static void rule() {
        sentence("9: RULE: the old");
        GuardOfSums x = new GuardOfSums();
        due("greatest", x.rule(3), 0);
        due("least", x.rule(0), 3);
        due("the same", x.rule(0), 0);
    }

    private static void limit() {
        sentence("10: LIMIT: the old");
        GuardOfSums x = new GuardOfSums();
        due("least", x.limit(0), 4);
        due("greatest", x.limit(10), 0);
        due("the same", x.limit(10), 10);
    }

    private static void ask() {
        sentence("11: the TRUE ANSWER");
        due("the greatest", Guards.of(99, 99, 99, 99, 99, 99, 99, 99).ask(2, 255, 3), 1485);
        due("the least", Guards.of(0, 99, 99, 99, 99, 99, 99, 99).ask(1, 1, 254), -693);
        due("one less than 0 is no REFUSAL", Guards.of(0, 1).ask(1, 1, 2), -1);
        due("5 less than 0 is no REFUSAL", Guards.of(0, 5).ask(1, 1, 2), -5);
    }

    private static void would() {
        sentence("12: WOULD");
        GuardOfSums x = Guards.full();
        due("the greatest SUM", x.would(0, 255, 0), 2);
        due("all in a and b", x.would(1, 170, 85), 0);
        due("three in a and five in b", x.would(1, 7, 248), 2);
        due("the greatest WEIGHED one", x.would(2, 255, 3), 2);
    }

    private static void sums() {
        sentence("13: the least that JOINS (what 0; -9), how many JOIN (1), are REFUSED (2), are SPANNED (3)");
        GuardOfSums x = Guards.nearlyFull();
        int[] before = {65, 127, 128, 0};
        for (int what = 0; what < 4; what++) {
            due("what " + what, x.sums(what), before[what]);
        }
        x.ask(0, 65, 0);
        int[] then = {-9, 0, 248, 7};
        for (int what = 0; what < 4; what++) {
            due("what " + what, x.sums(what), then[what]);
        }
    }

    private static void ledger() {
        sentence("14: The COEFFICIENT of a VARIABLE in the i-th LEDGER row, and 100");
        GuardOfSums x = Guards.full();
        due("the first row", x.ledger(0, 0), 101);
        due("less than 0", x.ledger(0, 1), 99);
        due("0", x.ledger(0, 9), 100);
        due("the last row", x.ledger(8, 9), 99);
        GuardOfSums y = new GuardOfSums();
        y.ask(2, 255, 3);
        due("the greatest", y.ledger(0, 5), 103);
    }

    private static void answer() {
        sentence("15: The TRUE ANSWER of the i-th LEDGER row");
        GuardOfSums x = Guards.full();
        due("the first", x.answer(0), -10);
        due("the last", x.answer(8), 3);
        due("the one before it", x.answer(7), 5);
    }

    private static void reduced() {
        sentence("16: REDUCED, part 0 above, 1 below the line");
        GuardOfSums x = Guards.full();
        due("the last of all: above", x.reduced(8, 9, 0), -1);
        due("the last of all: below", x.reduced(8, 9, 1), 1);
        due("the first of all: above", x.reduced(0, 0, 0), 1);
        due("nothing: above", x.reduced(0, 8, 0), 0);
        due("nothing: below", x.reduced(0, 8, 1), 1);
    }

    private static void pivots() {
        sentence("17: PIVOTS (bits)");
        due("none", new GuardOfSums().pivots(), 0);
        due("nine", Guards.full().pivots(), 511);
    }

    private static void attack() {
        sentence("18: the least a (what 0; -9), how many (1)");
        GuardOfSums x = Guards.nearlyFull();
        // 9 by person 6 alone; any of the others by some of them without person 6
        due("9", x.attack(9, 0), 64);
        due("9", x.attack(9, 1), 1);
        due("8", x.attack(8, 0), 1);
        due("8", x.attack(8, 1), 127);
        due("6, which nobody has", x.attack(6, 1), 127);
    }

    private static void known() {
        sentence("19: KNOWN (bits)");
        GuardOfSums x = Guards.full();
        due("none", x.known(), 0);
        x.bounds(9, 7, 7);
        due("one tells all ten", x.known(), 1023);
    }

    private static void learns() {
        sentence("20: the least WIDTH (what 0), the VARIABLE (1), how many KNOWN (2)");
        GuardOfSums x = Guards.nearlyFull();
        // differences up to 75 are told: WIDTH of 0 .. 8 is 25
        due("WIDTH", x.learns(1, 1, 2, 0), 25);
        due("VARIABLE", x.learns(1, 1, 2, 1), 0);
        due("KNOWN", x.learns(1, 1, 2, 2), 0);
        due("9 alone: WIDTH", x.learns(0, 64, 0, 0), 1);
        due("9 alone: VARIABLE", x.learns(0, 64, 0, 1), 9);
        due("9 alone: KNOWN", x.learns(0, 64, 0, 2), 1);
        due("8 alone: KNOWN", x.learns(0, 128, 0, 2), 9);
    }

    private static void order() {
        sentence("21: 100 times the first .. (what 0), how many JOIN (1)");
        GuardOfSums x = new GuardOfSums();
        due("least", x.order(1, 1, 1, 0), 12);
        due("least", x.order(1, 1, 1, 1), 0);
        due("greatest", x.order(255, 255, 255, 0), 12);
        due("greatest", x.order(255, 255, 255, 1), 1);
        due("three", x.order(255, 15, 3, 1), 3);
        due("102", x.order(7, 3, 6, 0), 102);
    }

    private static void two() {
        sentence("22: TWO");
        GuardOfSums x = new GuardOfSums();
        due("least", x.two(1, 1), 0);
        due("greatest", x.two(255, 255), 11);
        due("least and greatest", x.two(1, 255), 1);
        due("greatest and least", x.two(255, 1), 10);
    }

    private static void cheapest() {
        sentence("23: a (what 0; -9), SIZE (1; -9)");
        GuardOfSums x = new GuardOfSums();
        due("a", x.cheapest(0), 3);
        due("SIZE", x.cheapest(1), 2);
        x.rule(3);
        x.limit(0);
        due("no a", x.cheapest(0), -9);
        due("no SIZE", x.cheapest(1), -9);
    }

    private static void mean() {
        sentence("24: MEAN WIDTH, above and below the line");
        GuardOfSums x = Guards.nearlyFull();
        // nine of 25, one of 100: 325 by 10
        due("above", x.mean(0), 65);
        due("below", x.mean(1), 2);
        GuardOfSums y = Guards.full();
        due("ten of 25", y.mean(0), 25);
        due("by 1", y.mean(1), 1);
    }

    private static void share() {
        sentence("25: SHARE of SUMS, above and below the line");
        due("nothing", Guards.full().share(0), 0);
        due("by 1", Guards.full().share(1), 1);
        due("247", new GuardOfSums().share(0), 247);
        due("by 255", new GuardOfSums().share(1), 255);
    }

    private static void which() {
        sentence("26: RULES (what 0, bits), LIMITS (1), by the ROW (it stays)");
        GuardOfSums x = new GuardOfSums();
        due("empty: RULES", x.which(0), 15);
        due("empty: LIMITS", x.which(1), 2047);
        Guards.rowOf(x, 255, 1, 1, 2);
        due("RULES", x.which(0), 13);
        due("LIMITS", x.which(1), 2047);
        due("it stays", x.count(6), 4);
    }

    private static void row() {
        sentence("27: A number more of the ROW (0 .. 255): how many");
        GuardOfSums x = new GuardOfSums();
        due("the first, least", x.row(0), 1);
        due("greatest", x.row(255), 2);
        for (int i = 3; i < 32; i++) {
            x.row(1);
        }
        due("the 32nd", x.row(255), 32);
    }

    private static void judge() {
        sentence("28: JUDGED; -9 (whichever it answers, the ROW has none then)");
        GuardOfSums x = Guards.tens();
        x.ask(0, 3, 0);
        due("-9", x.judge(), -9);
        Guards.rowOf(x, 10, 20);
        due("-9", x.judge(), -9);
        due("none then", x.count(6), 0);
        Guards.rowOf(x, 9);
        due("0", x.judge(), 0);
        due("none then", x.count(6), 0);
        due("the next is judged anew", x.judge(), -9);
    }

    private static void clear() {
        sentence("29: The ROW has none then: how many it had");
        GuardOfSums x = new GuardOfSums();
        due("empty", x.clear(), 0);
        for (int i = 0; i < 32; i++) {
            x.row(i);
        }
        due("full", x.clear(), 32);
        due("none then", x.count(6), 0);
        due("the first again", x.row(7), 1);
    }

    private static void lots() {
        sentence("30: JOIN (what 0), REFUSED (1)");
        GuardOfSums x = new GuardOfSums();
        x.rule(3);
        x.limit(1);
        due("one guard: JOIN", x.lots(1, 1, 0), 1);
        due("one guard: REFUSED", x.lots(1, 1, 1), 7);
        due("twenty guards: JOIN", x.lots(20, 1, 0), 20);
        due("least z", x.lots(1, Guards.LEAST, 0), 1);
        due("greatest z", x.lots(1, Guards.GREATEST, 0), 1);
    }

    private static void imageAndOn() {
        sentence("31, 32: RANK");
        GuardOfSums x = new GuardOfSums();
        due("image of none", x.image(), 0);
        due("on", x.on(), 0);
        GuardOfSums y = Guards.full();
        due("image of nine", y.image(), 9);
        due("on", y.on(), 9);
    }

    private static void count() {
        sentence("33: count");
        GuardOfSums x = Guards.full();
        x.rule(3);
        x.limit(10);
        x.row(1);
        x.letter('r');
        int[] want = {9, 10, 3, 10, 1023, 222, 1, 1};
        for (int what = 0; what < 8; what++) {
            due("count " + what, x.count(what), want[what]);
        }
        for (int what = 8; what < 11; what++) {
            due("count " + what, x.count(what), -9);
        }
        due("count 17", x.count(17), -9);
        due("all of 99", Guards.of(99, 99, 99, 99, 99, 99, 99, 99).count(5), 792);
    }

    private static void fiveHundredCalls() {
        sentence("An object is used for at most 512 calls");
        GuardOfSums x = new GuardOfSums();
        for (int i = 0; i < 510; i++) {
            x.ask(0, 1, 0);
        }
        due("the 511th", x.count(15), 510);
        due("the 512th", x.ask(0, 3, 0), 0);
    }
}
