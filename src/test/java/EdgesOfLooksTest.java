/**
 * Terms, II: each sentence that names a boundary case (what would be, what is known, who asks in
 * which order, ROWS, LOTS, THE IMAGE), with answers worked out by hand.
 */
public final class EdgesOfLooksTest {
    private static final Due DUE = new Due();

    public static void main(String[] args) {
        wouldOfEach();
        leastThatJoins();
        leastThatIsTheGreatest();
        noneThatJoins();
        howManyOfAll();
        reducedOne();
        reducedThree();
        reducedBelowTheLine();
        reducedInOrderOfPivots();
        reducedOfTheFullLedger();
        pivots();
        free();
        attackLeast();
        attackNone();
        attackAll();
        attackWhateverTheRule();
        narrowedByNothing();
        narrowedToWholeNumbers();
        narrowedByDifferences();
        narrowedBySeveralRows();
        narrowedOverOldVariables();
        sixtyRounds();
        narrowedCountsAtOnce();
        narrowedCountsAtOnceFromBelow();
        width();
        known();
        tellsWhateverTheRule();
        tellsOfSpanned();
        tellsFirstOfSeveral();
        tellsAll();
        orderMostJoin();
        orderFirstOfSeveral();
        orderSpannedIsNoJoin();
        two();
        twoByFour();
        cheapestLeastSize();
        cheapestNone();
        mean();
        share();
        whichOfNone();
        whichAboveTwo();
        whichLimits();
        whichRules();
        whichOfAFullRow();
        judged();
        judgedNotTold();
        judgedMoreThanThereAre();
        lotsDraw();
        lotsWrapAround();
        lotsEightTimes();
        lotsGoOn();
        lotsEachFromNow();
        imageOfAll();
        imageWithout();
        imageAgain();
        imageOfFractions();
        DUE.close("EdgesOfLooksTest");
    }

    private static void sentence(String words) {
        DUE.sentence(words);
    }

    private static void due(String call, long got, long want) {
        DUE.is(call, got, want);
    }

    private static void wouldOfEach() {
        sentence("WOULD: what a QUESTION would meet now: 0 SPANNED, 1 it JOINS, 2 REFUSED");
        GuardOfSums x = Guards.tens();
        x.ask(0, 7, 0);
        due("SPANNED", x.would(0, 7, 0), 0);
        due("JOINS", x.would(0, 56, 0), 1);
        due("REFUSED", x.would(0, 15, 0), 2);
        due("it is not asked", x.count(0), 1);
        due("it is not counted", x.count(15), 0);
        due("JOINS", x.would(0, 56, 0), 1);
    }

    private static void leastThatJoins() {
        sentence("By all SUMS (a 1 .. 255): the least a that JOINS");
        due("of a new one", new GuardOfSums().sums(0), 3);
        // modulo the differences of 0 .. 8 a SUM is some times VARIABLE 0, with VARIABLE 9 or not:
        // it fixes none just if it has both
        due("person 6 and another", Guards.nearlyFull().sums(0), 65);
        GuardOfSums x = new GuardOfSums();
        x.rule(2);
        due("PAIRED", x.sums(0), 7);
    }

    private static void leastThatIsTheGreatest() {
        sentence("By all SUMS (a 1 .. 255): the greatest a, too");
        GuardOfSums x = Guards.allButEverybodyRefused();
        due("RANK", x.count(0), 6);
        due("the least a that JOINS", x.sums(0), 255);
        due("how many JOIN", x.sums(1), 1);
        due("are REFUSED", x.sums(2), 254);
        due("are SPANNED", x.sums(3), 0);
        due("CHEAPEST", x.cheapest(0), 255);
        due("CHEAPEST: SIZE", x.cheapest(1), 8);
        due("SHARE above", x.share(0), 1);
        due("SHARE below", x.share(1), 255);
        due("asked", x.ask(0, 255, 0), 0);
        due("none is left", x.sums(0), -9);
        due("one is SPANNED", x.sums(3), 1);
        due("none is left", x.cheapest(1), -9);
    }

    private static void noneThatJoins() {
        sentence("By all SUMS: -9");
        due("none joins", Guards.full().sums(0), -9);
        due("-9 is no REFUSAL", Guards.full().count(12), 0);
        GuardOfSums x = new GuardOfSums();
        x.rule(3);
        x.limit(0);
        due("LIMIT 0", x.sums(0), -9);
    }

    private static void howManyOfAll() {
        sentence("By all SUMS: how many JOIN, are REFUSED, are SPANNED");
        GuardOfSums x = Guards.full();
        due("JOIN", x.sums(1), 0);
        due("REFUSED", x.sums(2), 255);
        due("SPANNED", x.sums(3), 0);
        GuardOfSums y = Guards.nearlyFull();
        due("JOIN: with person 6, any others but none", y.sums(1), 127);
        due("REFUSED", y.sums(2), 128);
        y.ask(0, 65, 0);
        due("SPANNED: person 6 and one of the others", y.sums(3), 7);
        due("REFUSED", y.sums(2), 248);
        GuardOfSums z = new GuardOfSums();
        int[] pairs = {3, 12, 48, 192};
        for (int a : pairs) {
            z.ask(0, a, 0);
        }
        due("SPANNED: any pairs but none", z.sums(3), 15);
        // a pair that is parted, and no other one, would be fixed: 4 times 2 times 8
        due("REFUSED: just one pair is parted", z.sums(2), 64);
        due("JOIN", z.sums(1), 176);
    }

    private static void fraction(GuardOfSums x, int i, int variable, long above, long below) {
        due("above in " + i + ", " + variable, x.reduced(i, variable, 0), above);
        due("below in " + i + ", " + variable, x.reduced(i, variable, 1), below);
    }

    private static void reducedOne() {
        sentence("REDUCED: in each the first COEFFICIENT that is not 0 (its PIVOT, by VARIABLES) is 1");
        GuardOfSums x = new GuardOfSums();
        x.ask(2, 44, 3);
        // 3 of person 2, 1 of person 3, 3 of person 5
        fraction(x, 0, 1, 0, 1);
        fraction(x, 0, 2, 1, 1);
        fraction(x, 0, 3, 1, 3);
        fraction(x, 0, 4, 0, 1);
        fraction(x, 0, 5, 1, 1);
    }

    private static void reducedThree() {
        sentence("REDUCED: all rows have 0 in the PIVOTS of others: a fraction in least terms");
        GuardOfSums x = new GuardOfSums();
        x.ask(2, 7, 3);
        x.ask(2, 14, 2);
        // 1 2 3 0 and 0 2 1 2: 1 0 2 -2 and 0 1 1/2 1
        fraction(x, 0, 0, 1, 1);
        fraction(x, 0, 1, 0, 1);
        fraction(x, 0, 2, 2, 1);
        fraction(x, 0, 3, -2, 1);
        fraction(x, 1, 0, 0, 1);
        fraction(x, 1, 1, 1, 1);
        fraction(x, 1, 2, 1, 2);
        fraction(x, 1, 3, 1, 1);
        x.ask(0, 13, 0);
        // 1 0 1 1 less the first is 0 0 -1 3: 1 0 0 4, 0 1 0 5/2, 0 0 1 -3
        fraction(x, 0, 2, 0, 1);
        fraction(x, 0, 3, 4, 1);
        fraction(x, 1, 2, 0, 1);
        fraction(x, 1, 3, 5, 2);
        fraction(x, 2, 0, 0, 1);
        fraction(x, 2, 1, 0, 1);
        fraction(x, 2, 2, 1, 1);
        fraction(x, 2, 3, -3, 1);
    }

    private static void reducedBelowTheLine() {
        sentence("REDUCED: below the line above 0; 0 by 1");
        GuardOfSums x = new GuardOfSums();
        x.ask(1, 4, 3);
        // -1 -1 1
        fraction(x, 0, 0, 1, 1);
        fraction(x, 0, 1, 1, 1);
        fraction(x, 0, 2, -1, 1);
        fraction(x, 0, 3, 0, 1);
        x.ask(2, 12, 3);
        // 0 0 3 1
        fraction(x, 0, 2, 0, 1);
        fraction(x, 0, 3, 1, 3);
        fraction(x, 1, 3, 1, 3);
        x.ask(1, 16, 2);
        // 0 -1 0 0 1: 1 0 0 1/3 1, 0 1 0 0 -1, 0 0 1 1/3 0
        fraction(x, 0, 4, 1, 1);
        fraction(x, 1, 4, -1, 1);
        fraction(x, 2, 3, 1, 3);
        fraction(x, 2, 4, 0, 1);
    }

    private static void reducedInOrderOfPivots() {
        sentence("REDUCED: rows in the order of PIVOTS");
        GuardOfSums x = new GuardOfSums();
        x.ask(0, 192, 0);
        x.ask(0, 24, 0);
        x.ask(0, 3, 0);
        fraction(x, 0, 0, 1, 1);
        fraction(x, 1, 3, 1, 1);
        fraction(x, 2, 6, 1, 1);
        fraction(x, 2, 0, 0, 1);
        due("THE LEDGER is in its own order", x.ledger(0, 7), 101);
    }

    private static void reducedOfTheFullLedger() {
        sentence("REDUCED: of nine rows");
        GuardOfSums x = Guards.full();
        for (int i = 0; i < 9; i++) {
            fraction(x, i, i, 1, 1);
            fraction(x, i, (i + 1) % 9, 0, 1);
            fraction(x, i, 9, -1, 1);
        }
        due("no tenth", x.reduced(9, 9, 0), Guards.LONG_NOBODY);
    }

    private static void pivots() {
        sentence("PIVOTS: VARIABLES (bits)");
        GuardOfSums x = new GuardOfSums();
        due("none", x.pivots(), 0);
        x.ask(0, 192, 0);
        due("6", x.pivots(), 64);
        x.ask(0, 129, 0);
        due("0 and 6: 1 0 .. -1 is one", x.pivots(), 65);
        due("all but the last", Guards.full().pivots(), 511);
        GuardOfSums y = new GuardOfSums();
        y.changes(0, 1);
        y.changes(7, 1);
        y.ask(0, 129, 0);
        due("8 and 9: the first of them", y.pivots(), 256);
    }

    private static void free() {
        sentence("FREE of a VARIABLE: it is in no LEDGER row (1, 0)");
        GuardOfSums x = new GuardOfSums();
        due("at first", x.variable(0, 6), 1);
        x.ask(0, 1, 0);
        x.would(0, 3, 0);
        x.learns(0, 3, 0, 0);
        x.attack(0, 0);
        due("REFUSED or in mind", x.variable(0, 6), 1);
        x.ask(1, 6, 1);
        due("by -1", x.variable(0, 6), 0);
        due("by 1", x.person(2, 2), 0);
        due("another", x.person(3, 2), 1);
        due("bits of those that are not", x.count(4), 7);
        x.changes(0, 1);
        due("the old one", x.variable(0, 6), 0);
        due("the new one", x.person(0, 2), 1);
        due("bits", x.count(4), 7);
        due("all of ten", Guards.full().count(4), 1023);
    }

    private static void attackLeast() {
        sentence("ATTACK on a VARIABLE: by a SUM (a 1 .. 255) more in THE LEDGER it would be FIXED: the least a");
        GuardOfSums x = new GuardOfSums();
        due("least a of all", x.attack(0, 0), 1);
        due("by no other", x.attack(0, 1), 1);
        due("greatest VARIABLE", x.attack(7, 0), 128);
        x.ask(0, 127, 0);
        due("alone", x.attack(7, 0), 128);
        due("alone, or all", x.attack(7, 1), 2);
        due("alone, or all but it", x.attack(6, 0), 63);
        due("alone, or all but it", x.attack(6, 1), 2);
        GuardOfSums y = new GuardOfSums();
        y.ask(0, 3, 0);
        y.ask(0, 6, 0);
        // modulo the rows 0 and 2 are 1 less than 0: of the three all but 3 and 6, which are SPANNED
        due("of a chain", y.attack(1, 0), 1);
        due("of a chain", y.attack(1, 1), 5);
        due("alone, or with what is SPANNED", y.attack(3, 1), 3);
    }

    private static void attackNone() {
        sentence("ATTACK: -9; how many a");
        GuardOfSums x = new GuardOfSums();
        x.changes(3, 1);
        due("one that nobody has, FREE", x.attack(3, 0), -9);
        due("how many", x.attack(3, 1), 0);
        due("-9 is no REFUSAL", x.count(11), 0);
        due("the new one", x.attack(8, 0), 8);
        due("how many", x.attack(8, 1), 1);
        x.changes(3, 2);
        due("the newest", x.attack(9, 0), 8);
        due("the one before it", x.attack(8, 0), -9);
    }

    private static void attackAll() {
        sentence("ATTACK: every a");
        GuardOfSums x = Guards.full();
        for (int v = 0; v < 10; v++) {
            due("the least of " + v, x.attack(v, 0), 1);
            due("how many of " + v, x.attack(v, 1), 255);
        }
    }

    private static void attackWhateverTheRule() {
        sentence("ATTACK: whatever the RULE");
        for (int rule = 0; rule < 4; rule++) {
            GuardOfSums x = new GuardOfSums();
            x.ask(0, 127, 0);
            x.rule(rule);
            x.limit(0);
            due("by RULE " + rule, x.attack(7, 0), 128);
            due("how many by RULE " + rule, x.attack(7, 1), 2);
        }
    }

    private static void ends(GuardOfSums x, int variable, int least, int most) {
        due("LEAST of " + variable, x.variable(variable, 3), least);
        due("MOST of " + variable, x.variable(variable, 4), most);
        due("WIDTH of " + variable, x.variable(variable, 5), most - least + 1);
    }

    private static void narrowedByNothing() {
        sentence("NARROWED: from LOW, HIGH of all VARIABLES on");
        GuardOfSums x = Guards.tens();
        ends(x, 0, 0, 99);
        x.bounds(0, 3, 12);
        ends(x, 0, 3, 12);
        x.ask(0, 192, 0);
        ends(x, 0, 3, 12);
        // 150 less what the other can be, 51 .. 99
        ends(x, 6, 51, 99);
        ends(x, 7, 51, 99);
    }

    private static void narrowedToWholeNumbers() {
        sentence("NARROWED: by the ends of the others alone (the least whole number not below, the greatest not above)");
        GuardOfSums x = Guards.of(99, 2);
        x.ask(2, 3, 2);
        // v0 + 2 v1 = 103: v1 from 4/2 to 103/2, then v0 from 103 - 102
        ends(x, 0, 1, 99);
        ends(x, 1, 2, 51);
        GuardOfSums y = Guards.of(1, 1, 32);
        y.bounds(0, 1, 1);
        y.bounds(1, 1, 9);
        y.ask(2, 7, 3);
        // v0 + 2 v1 + 3 v2 = 99: v2 from 80/3 to 96/3; v1 to 17/2; v2 from 82/3; v1 to 14/2
        ends(y, 0, 1, 1);
        ends(y, 1, 1, 7);
        ends(y, 2, 28, 32);
        GuardOfSums z = Guards.of(0, 1, 0, 0);
        z.bounds(3, 0, 1);
        z.ask(2, 10, 2);
        // 2 v1 + 2 v3 = 2
        ends(z, 1, 0, 1);
        ends(z, 3, 0, 1);
    }

    private static void narrowedByDifferences() {
        sentence("NARROWED: COEFFICIENTS below 0");
        GuardOfSums x = Guards.of(0, 80, 70);
        x.ask(1, 1, 6);
        // v0 - v1 - v2 = -150
        ends(x, 0, 0, 48);
        ends(x, 1, 51, 99);
        ends(x, 2, 51, 99);
        GuardOfSums y = Guards.of(99, 0);
        y.ask(1, 1, 2);
        ends(y, 0, 99, 99);
        ends(y, 1, 0, 0);
        GuardOfSums z = Guards.of(5, 50, 45);
        z.bounds(1, 40, 60);
        z.bounds(2, 41, 45);
        z.ask(1, 6, 1);
        // v1 + v2 - v0 = 90: v0 to 15; v1 from 45
        ends(z, 0, 0, 15);
        ends(z, 1, 45, 60);
        ends(z, 2, 41, 45);
    }

    private static void narrowedBySeveralRows() {
        sentence("NARROWED: again and again over LEDGER rows, till a round over all changes nothing");
        GuardOfSums x = Guards.of(0, 99, 0, 99);
        x.ask(0, 6, 0);
        x.ask(0, 12, 0);
        // v1 + v2 = 99, v2 + v3 = 99
        ends(x, 1, 0, 99);
        x.bounds(3, 98, 99);
        // the second row narrows v2, the next round v1 by the first
        ends(x, 2, 0, 1);
        ends(x, 1, 98, 99);
        x.ask(0, 3, 0);
        // v0 + v1 = 99, in a third row
        ends(x, 0, 0, 1);
        due("KNOWN", x.known(), 0);
        x.bounds(0, 0, 0);
        due("KNOWN by the last row first", x.known(), 15);
    }

    private static void narrowedOverOldVariables() {
        sentence("VARIABLES that nobody has any more stay in THE LEDGER, in NARROWED and MEAN");
        GuardOfSums x = Guards.of(50, 50);
        x.ask(0, 3, 0);
        x.changes(0, 1);
        x.bounds(0, 40, 60);
        due("THE LEDGER", x.ledger(0, 0), 101);
        ends(x, 1, 40, 60);
        x.changes(1, 1);
        ends(x, 1, 40, 60);
        // 21, 21 and 8 of 100, by 10
        due("MEAN above", x.mean(0), 421);
        due("MEAN below", x.mean(1), 5);
    }

    /** The ends after 59 and after 61 rounds differ from these; they settle in round 102. */
    private static void sixtyRounds() {
        sentence("NARROWED: 60 rounds at most");
        GuardOfSums x = Guards.of(99, 0, 0, 99, 0, 0, 99, 51);
        x.bounds(4, 0, 68);
        due("1 0 0 0 0 1 1 0", x.ask(2, 97, 1), 198);
        due("1 0 3 1 2 3 1 0", x.ask(2, 125, 3), 297);
        due("1 2 1 2 1 0 1 0", x.ask(2, 95, 2), 396);
        due("1 2 3 0 2 0 0 0", x.ask(2, 23, 3), 99);
        int[] least = {77, 0, 0, 79, 0, 0, 77, 0};
        int[] most = {99, 11, 7, 99, 11, 22, 99, 99};
        for (int v = 0; v < 8; v++) {
            ends(x, v, least[v], most[v]);
        }
        due("none is KNOWN", x.known(), 0);
        // 23 12 8 21 12 23 23 100
        due("MEAN above", x.mean(0), 111);
        due("MEAN below", x.mean(1), 4);
        GuardOfSums y = Guards.of(99, 66, 99, 1, 99, 0, 0, 7);
        int[] lows = {0, 66, 4, 1, 0, 0, 0, 6};
        int[] highs = {99, 66, 99, 99, 99, 91, 99, 99};
        for (int v = 0; v < 8; v++) {
            y.bounds(v, lows[v], highs[v]);
        }
        y.ask(2, 245, 2);
        y.ask(2, 29, 3);
        y.ask(1, 40, 128);
        int[] leastThen = {97, 66, 99, 1, 98, 0, 0, 7};
        int[] mostThen = {99, 66, 99, 2, 99, 1, 3, 8};
        for (int v = 0; v < 8; v++) {
            ends(y, v, leastThen[v], mostThen[v]);
        }
        // five rounds more would tell all of them
        due("KNOWN", y.known(), 6);
    }

    /** If it counted from the next row on, LEAST of 3 were 94, MOST of 7 were 1 after 60 rounds. */
    private static void narrowedCountsAtOnce() {
        sentence("what is narrowed counts at once");
        GuardOfSums x = Guards.of(98, 2, 32, 95, 1, 72, 0, 0);
        int[] lows = {3, 2, 0, 1, 1, 29, 0, 0};
        int[] highs = {99, 99, 99, 95, 99, 99, 99, 20};
        for (int v = 0; v < 8; v++) {
            x.bounds(v, lows[v], highs[v]);
        }
        int[][] asked = {{2, 109, 2}, {0, 15, 0}, {2, 45, 3}, {2, 48, 2}, {2, 81, 3}, {1, 16, 129}, {2, 153, 3}};
        for (int[] q : asked) {
            x.ask(q[0], q[1], q[2]);
        }
        due("RANK", x.count(0), 7);
        int[] least = {97, 2, 32, 95, 1, 72, 0, 0};
        int[] most = {98, 4, 32, 95, 1, 72, 1, 0};
        for (int v = 0; v < 8; v++) {
            ends(x, v, least[v], most[v]);
        }
    }

    /** The same from the other side: each VALUE, LOW and HIGH less than 99 by what it was above 0. */
    private static void narrowedCountsAtOnceFromBelow() {
        sentence("what is narrowed counts at once, LEAST as MOST");
        GuardOfSums x = Guards.of(1, 97, 67, 4, 98, 27, 99, 99);
        int[] lows = {0, 0, 0, 4, 0, 0, 0, 79};
        int[] highs = {96, 97, 99, 98, 98, 70, 99, 99};
        for (int v = 0; v < 8; v++) {
            x.bounds(v, lows[v], highs[v]);
        }
        int[][] asked = {{2, 109, 2}, {0, 15, 0}, {2, 45, 3}, {2, 48, 2}, {2, 81, 3}, {1, 16, 129}, {2, 153, 3}};
        for (int[] q : asked) {
            x.ask(q[0], q[1], q[2]);
        }
        due("RANK", x.count(0), 7);
        int[] least = {1, 95, 67, 4, 98, 27, 98, 99};
        int[] most = {2, 97, 67, 4, 98, 27, 99, 99};
        for (int v = 0; v < 8; v++) {
            ends(x, v, least[v], most[v]);
        }
    }

    private static void width() {
        sentence("WIDTH: MOST less LEAST and 1");
        GuardOfSums x = Guards.of(0, 99, 50);
        due("the greatest", x.variable(0, 5), 100);
        x.bounds(0, 0, 0);
        due("the least", x.variable(0, 5), 1);
        x.bounds(1, 98, 99);
        due("two", x.variable(1, 5), 2);
    }

    private static void known() {
        sentence("KNOWN: VARIABLES (bits) of WIDTH 1");
        GuardOfSums x = new GuardOfSums();
        due("none", x.known(), 0);
        x.bounds(0, 0, 1);
        due("WIDTH 2", x.known(), 0);
        x.bounds(0, 0, 0);
        due("the first", x.known(), 1);
        x.bounds(7, 0, 0);
        due("the last", x.known(), 129);
        x.changes(0, 5);
        x.changes(0, 6);
        x.bounds(9, 6, 6);
        due("old and new ones", x.known(), 641);
        for (int v = 0; v < 8; v++) {
            x.bounds(v, 0, 0);
        }
        x.bounds(8, 5, 5);
        due("all", x.known(), 1023);
        due("MEAN", x.mean(0), 1);
        due("MEAN", x.mean(1), 1);
    }

    private static void tellsWhateverTheRule() {
        sentence("TELLS: in mind a QUESTION JOINS (whatever the RULE)");
        for (int rule = 0; rule < 4; rule++) {
            GuardOfSums x = Guards.tens();
            x.rule(rule);
            x.limit(0);
            due("one alone: WIDTH", x.learns(0, 128, 0, 0), 1);
            due("one alone: VARIABLE", x.learns(0, 128, 0, 1), 7);
            due("one alone: KNOWN", x.learns(0, 128, 0, 2), 1);
            due("two: WIDTH", x.learns(0, 3, 0, 0), 31);
            due("all: WIDTH", x.learns(0, 255, 0, 0), 100);
            due("in mind alone", x.count(0), 0);
            due("in mind alone", x.variable(7, 6), 1);
            due("in mind alone", x.variable(7, 5), 100);
            due("no REFUSAL", x.count(15), 0);
        }
    }

    private static void tellsOfSpanned() {
        sentence("TELLS: (SPANNED ones do nothing)");
        GuardOfSums x = Guards.tens();
        x.ask(0, 3, 0);
        x.ask(0, 12, 0);
        // v0 + v1 = 30, v2 + v3 = 70
        due("WIDTH", x.learns(0, 15, 0, 0), 31);
        due("VARIABLE", x.learns(0, 15, 0, 1), 0);
        due("KNOWN", x.learns(0, 15, 0, 2), 0);
        GuardOfSums y = Guards.of(50, 20, 30, 50);
        y.bounds(0, 50, 50);
        y.ask(0, 7, 0);
        y.ask(0, 14, 0);
        // as a row of its own v0 - v3 = 0 would tell v3
        due("a difference of rows is no row", y.learns(1, 1, 8, 2), 1);
        due("what does JOIN tells it", y.learns(0, 9, 0, 2), 2);
    }

    private static void tellsFirstOfSeveral() {
        sentence("TELLS: the least WIDTH of all VARIABLES then; the first VARIABLE so");
        GuardOfSums x = Guards.tens();
        due("of all the same the first", x.learns(0, 255, 0, 1), 0);
        due("of two the first", x.learns(0, 12, 0, 1), 2);
        for (int v = 0; v < 8; v++) {
            due("the only one", x.learns(0, 1 << v, 0, 1), v);
        }
        x.bounds(7, 80, 80);
        due("one that is not asked for", x.learns(0, 12, 0, 1), 7);
        due("its WIDTH", x.learns(0, 12, 0, 0), 1);
        due("how many are KNOWN", x.learns(0, 12, 0, 2), 1);
        x.changes(7, 5);
        due("old ones, too", x.learns(0, 12, 0, 1), 7);
        x.changes(7, 6);
        x.bounds(7, 0, 99);
        x.bounds(9, 6, 6);
        due("the last", x.learns(0, 12, 0, 1), 9);
    }

    private static void tellsAll() {
        sentence("TELLS: how many are KNOWN");
        GuardOfSums x = Guards.full();
        due("none by differences", x.known(), 0);
        due("one more tells all ten", x.learns(0, 1, 0, 2), 10);
        due("WIDTH", x.learns(0, 1, 0, 0), 1);
        due("VARIABLE", x.learns(0, 1, 0, 1), 0);
        due("RANK", x.count(0), 9);
        due("a SPANNED one tells none", x.learns(1, 1, 2, 2), 0);
    }

    private static void orderMostJoin() {
        sentence("ORDER: asked one behind the other by THE GUARD, so that most JOIN");
        GuardOfSums x = Guards.tens();
        // 7 would fix with 3 and with 6; 3 and 6 go together
        due("7 behind one of them", x.order(7, 3, 6, 0), 102);
        due("how many", x.order(7, 3, 6, 1), 2);
        due("none", x.order(1, 2, 4, 1), 0);
        due("one", x.order(1, 3, 4, 1), 1);
        due("three", x.order(3, 12, 48, 1), 3);
        due("255 is the greatest", x.order(255, 255, 255, 1), 1);
        due("1 is the least", x.order(1, 1, 1, 1), 0);
        due("in mind alone", x.count(0), 0);
        due("in mind alone", x.count(15), 0);
        x.rule(3);
        x.limit(2);
        due("by RULE and LIMIT", x.order(3, 12, 48, 1), 2);
        due("of a full LEDGER", Guards.full().order(3, 5, 6, 1), 0);
    }

    private static void orderFirstOfSeveral() {
        sentence("ORDER: of several orders the first (by places): 100 times the first, 10 times the second, the third");
        GuardOfSums x = Guards.tens();
        due("all the same", x.order(3, 12, 48, 0), 12);
        due("none joins", x.order(1, 2, 4, 0), 12);
        due("the last of three is refused", x.order(3, 6, 7, 0), 12);
        due("102 goes ahead of 120, 201 and 210", x.order(7, 6, 3, 0), 102);
        due("the one in the middle is refused", x.order(3, 7, 6, 0), 12);
    }

    private static void orderSpannedIsNoJoin() {
        sentence("ORDER: how many JOIN (SPANNED ones do not)");
        GuardOfSums x = Guards.tens();
        due("the same three times", x.order(3, 3, 3, 1), 1);
        due("the third is both", x.order(3, 12, 15, 1), 2);
        due("the first is both", x.order(15, 3, 12, 1), 2);
        x.ask(0, 3, 0);
        due("that was there", x.order(3, 3, 3, 1), 0);
        due("that was there", x.order(3, 12, 15, 1), 1);
    }

    private static void two() {
        sentence("TWO: who asks has 3, if it JOINS, 1, if it is SPANNED, 1 less than 0, if REFUSED; who does not has 0");
        GuardOfSums x = Guards.tens();
        due("both JOIN", x.two(3, 12), 11);
        due("both REFUSED", x.two(1, 128), 0);
        due("the one JOINS, the other is REFUSED", x.two(3, 1), 10);
        due("the one is REFUSED, the other JOINS", x.two(1, 3), 1);
        due("the one JOINS, the other is SPANNED then", x.two(3, 3), 11);
        due("the other would JOIN alone, but is REFUSED behind the one", x.two(3, 7), 10);
        x.ask(0, 3, 0);
        due("both SPANNED", x.two(3, 3), 11);
        due("SPANNED and REFUSED", x.two(3, 1), 10);
        due("REFUSED and SPANNED", x.two(1, 3), 1);
        due("in mind alone", x.count(0), 1);
        due("in mind alone", x.count(15), 0);
        x.rule(3);
        x.limit(2);
        due("by RULE and LIMIT: just one more", x.two(12, 48), 10);
        due("the one is SPANNED, the other may JOIN", x.two(3, 48), 11);
    }

    private static void twoByFour() {
        sentence("TWO: the first pair by which neither has more by another one of its own alone");
        GuardOfSums x = Guards.tens();
        x.ask(0, 3, 0);
        x.rule(1);
        due("127 has SIZE 7", x.would(0, 127, 0), 2);
        due("behind 124 it is SPANNED", x.two(124, 127), 11);
        due("ahead of it it is REFUSED", x.two(127, 124), 1);
        due("least and greatest", x.two(1, 255), 0);
    }

    private static void cheapestLeastSize() {
        sentence("CHEAPEST: of all SUMS that JOIN the one with least SIZE, of several the least a");
        GuardOfSums x = new GuardOfSums();
        due("a", x.cheapest(0), 3);
        due("SIZE", x.cheapest(1), 2);
        x.rule(2);
        due("PAIRED: a", x.cheapest(0), 7);
        due("PAIRED: SIZE", x.cheapest(1), 3);
        due("nearly full: a", Guards.nearlyFull().cheapest(0), 65);
        due("nearly full: SIZE", Guards.nearlyFull().cheapest(1), 2);
        GuardOfSums y = new GuardOfSums();
        y.ask(1, 3, 16);
        y.ask(1, 5, 32);
        y.ask(1, 6, 64);
        // 3, 5 and 6 would fix 4, 5 and 6
        due("the least a that JOINS has SIZE 3", y.sums(0), 7);
        due("least SIZE goes ahead", y.cheapest(0), 9);
        due("SIZE", y.cheapest(1), 2);
    }

    private static void cheapestNone() {
        sentence("CHEAPEST: -9; that SIZE");
        due("a", Guards.full().cheapest(0), -9);
        due("SIZE", Guards.full().cheapest(1), -9);
    }

    private static void mean() {
        sentence("MEAN WIDTH of all VARIABLES: a fraction in least terms");
        GuardOfSums x = new GuardOfSums();
        due("the greatest", x.mean(0), 100);
        due("the greatest", x.mean(1), 1);
        x.changes(0, 0);
        x.changes(0, 0);
        due("of ten", x.mean(0), 100);
        x.bounds(0, 0, 0);
        due("901 by 10", x.mean(0), 901);
        due("901 by 10", x.mean(1), 10);
        x.bounds(1, 0, 3);
        due("805 by 10", x.mean(0), 161);
        due("805 by 10", x.mean(1), 2);
        for (int v = 0; v < 10; v++) {
            x.bounds(v, 0, 0);
        }
        due("the least", x.mean(0), 1);
        due("the least", x.mean(1), 1);
    }

    private static void share() {
        sentence("SHARE of SUMS: how many of a 1 .. 255 are not REFUSED by 255: in least terms (0 by 1, if nothing)");
        GuardOfSums x = new GuardOfSums();
        due("247 by 255", x.share(0), 247);
        due("247 by 255", x.share(1), 255);
        x.rule(1);
        // one alone: 8, SIZE 7: 8, SIZE 8: 1
        due("238 by 255", x.share(0), 14);
        due("238 by 255", x.share(1), 15);
        GuardOfSums y = Guards.full();
        due("nothing", y.share(0), 0);
        due("by 1", y.share(1), 1);
        GuardOfSums z = Guards.nearlyFull();
        due("127 by 255", z.share(0), 127);
        z.ask(0, 65, 0);
        due("SPANNED ones are not REFUSED", z.share(0), 7);
        due("by 255", z.share(1), 255);
    }

    private static void whichOfNone() {
        sentence("WHICH RULE: (of none all is so)");
        GuardOfSums x = new GuardOfSums();
        due("RULES", x.which(0), 15);
        due("LIMITS 0 .. 10", x.which(1), 2047);
        x.row(3);
        x.clear();
        due("cleared", x.which(0), 15);
        due("of a full LEDGER", Guards.full().which(1), 2047);
    }

    private static void whichAboveTwo() {
        sentence("WHICH: a number above 2 is met by none");
        GuardOfSums x = new GuardOfSums();
        int[] met = {3, 4, 254, 255};
        for (int number : met) {
            Guards.rowOf(x, 3, number);
            due("RULES, " + number, x.which(0), 0);
            due("LIMITS, " + number, x.which(1), 0);
            Guards.rowOf(x, 3, 1, 3, number);
            due("behind one that is met, " + number, x.which(0), 0);
        }
        Guards.rowOf(x, 1, 2);
        due("2 is met", x.which(0), 15);
    }

    private static void whichLimits() {
        sentence("WHICH: LIMITS (bits 0 .. 10) by which, RULE as it is");
        GuardOfSums x = new GuardOfSums();
        x.rule(3);
        Guards.rowOf(x, 3, 1);
        due("JOINS by 1 and above", x.which(1), 2046);
        Guards.rowOf(x, 3, 2);
        due("REFUSED by 0", x.which(1), 1);
        Guards.rowOf(x, 3, 0);
        due("SPANNED by none", x.which(1), 0);
        x.rule(0);
        Guards.rowOf(x, 3, 1);
        due("by EXACT every one", x.which(1), 2047);
        Guards.rowOf(x, 3, 2);
        due("by EXACT none", x.which(1), 0);
        GuardOfSums y = Guards.nearlyFull();
        y.rule(3);
        y.limit(0);
        Guards.rowOf(y, 65, 1);
        due("RANK 9: by 9 and 10", y.which(1), 1536);
        Guards.rowOf(y, 65, 2);
        due("RANK 9: by 0 .. 8", y.which(1), 511);
        due("LIMIT stays", y.count(3), 0);
    }

    private static void whichRules() {
        sentence("WHICH: RULES (bits) by which, LIMIT as it is, all of it is so");
        GuardOfSums x = Guards.nearlyFull();
        Guards.rowOf(x, 65, 1);
        due("EXACT and SIZED", x.which(0), 3);
        x.limit(9);
        due("BUDGET by 9, too", x.which(0), 11);
        Guards.rowOf(x, 65, 2);
        due("PAIRED", x.which(0), 4);
        due("RULE stays", x.count(2), 0);
        GuardOfSums y = new GuardOfSums();
        Guards.rowOf(y, 3, 2);
        due("a pair is REFUSED by PAIRED alone", y.which(0), 4);
        Guards.rowOf(y, 255, 2);
        due("all are REFUSED by SIZED alone", y.which(0), 2);
        y.limit(0);
        due("by BUDGET, too, with LIMIT 0", y.which(0), 10);
        Guards.rowOf(y, 255, 2, 3, 1);
        due("both", y.which(0), 2);
        Guards.rowOf(y, 255, 2, 3, 1, 7, 2);
        due("all three", y.which(0), 0);
        Guards.rowOf(y, 1, 2);
        due("one alone is REFUSED by all", y.which(0), 15);
    }

    private static void whichOfAFullRow() {
        sentence("A ROW of numbers (0 .. 255; 32 at most): all of its pairs");
        GuardOfSums x = new GuardOfSums();
        for (int i = 0; i < 15; i++) {
            x.row(3);
            x.row(1);
        }
        x.row(255);
        due("31 are unwhole", x.which(0), -3);
        due("32", x.row(1), 32);
        due("no more", x.row(1), -6);
        due("EXACT and BUDGET", x.which(0), 9);
        GuardOfSums y = new GuardOfSums();
        for (int i = 0; i < 31; i++) {
            y.row(i % 2 == 0 ? 3 : 1);
        }
        y.row(2);
        due("the last one counts", y.which(0), 0);
        GuardOfSums z = new GuardOfSums();
        Guards.rowOf(z, 3, 1, 0, 1);
        due("an a that is 0", z.which(0), -3);
        Guards.rowOf(z, 3, 0, 255, 1);
        due("a number met may be 0", z.which(0), 0);
        Guards.rowOf(z, 3, 1, 0);
        due("unwhole", z.which(1), -3);
    }

    private static void judged() {
        sentence("JUDGED: the first LEDGER row whose TRUE ANSWER is not so by them; -9");
        GuardOfSums x = Guards.full();
        Guards.rowOf(x, 10, 20, 30, 40, 50, 60, 70, 80, 5, 7);
        due("as they are", x.judge(), -9);
        Guards.rowOf(x, 110, 120, 130, 140, 150, 160, 170, 180, 105, 107);
        due("100 more each: differences are so", x.judge(), -9);
        Guards.rowOf(x, 10, 20, 30, 40, 50, 60, 70, 80, 5, 8);
        due("the last row", x.judge(), 8);
        Guards.rowOf(x, 10, 20, 30, 40, 50, 60, 70, 81);
        due("the row of 6 and 7", x.judge(), 6);
        Guards.rowOf(x, 11);
        due("the first of several", x.judge(), 0);
        due("-9 is no REFUSAL", x.count(11), 0);
        GuardOfSums y = Guards.tens();
        Guards.rowOf(y, 255);
        due("no row, none is not so", y.judge(), -9);
        y.ask(1, 2, 1);
        Guards.rowOf(y, 245, 255);
        due("values above 99", y.judge(), -9);
        Guards.rowOf(y, 0, 0);
        due("0", y.judge(), 0);
    }

    private static void judgedNotTold() {
        sentence("JUDGED: VALUES of VARIABLES 0, 1, .. (those not told: as they are)");
        GuardOfSums x = Guards.tens();
        x.ask(0, 3, 0);
        due("none is told", x.judge(), -9);
        Guards.rowOf(x, 10);
        due("the first as it is", x.judge(), -9);
        Guards.rowOf(x, 11);
        due("the second as it is", x.judge(), 0);
        Guards.rowOf(x, 11, 19);
        due("both", x.judge(), -9);
        x.changes(0, 99);
        Guards.rowOf(x, 10, 20);
        due("VARIABLES, not PEOPLE", x.judge(), -9);
        due("the old VALUE, if not told", x.judge(), -9);
    }

    private static void judgedMoreThanThereAre() {
        sentence("JUDGED: (more than there are: no matter)");
        GuardOfSums x = Guards.tens();
        x.ask(0, 192, 0);
        for (int i = 0; i < 32; i++) {
            x.row(i < 8 ? 10 * (i + 1) : 255);
        }
        due("32", x.judge(), -9);
        due("the ROW has none then", x.count(6), 0);
        for (int i = 0; i < 32; i++) {
            x.row(i < 7 ? 10 * (i + 1) : 255);
        }
        due("32, the eighth is another", x.judge(), 0);
        due("the ROW has none then", x.count(6), 0);
    }

    /** RANK 1, LIMIT 0: a DRAW of 2 is the SUM 3, which is SPANNED; any other one is REFUSED. */
    private static GuardOfSums oneSpanned() {
        GuardOfSums x = new GuardOfSums();
        x.ask(0, 3, 0);
        x.rule(3);
        x.limit(0);
        return x;
    }

    private static void lotsDraw() {
        sentence("A DRAW below m: z becomes z times 1664525 and 1013904223; (z by 256, cut) modulo m; 1 and a DRAW");
        GuardOfSums x = oneSpanned();
        // the first z then is told behind each; the other seven draws are not 2
        due("512: 2", x.lots(1, -427320859, 1), 7);
        due("767: 2 still", x.lots(1, -939522528, 1), 7);
        due("511: 1", x.lots(1, -408469216, 1), 8);
        due("768: 3", x.lots(1, -958374171, 1), 8);
        due("257 times 256: 2 again", x.lots(1, 1593038053, 1), 7);
        due("none JOINS", x.lots(1, -427320859, 0), 0);
        GuardOfSums y = new GuardOfSums();
        y.ask(0, 255, 0);
        y.rule(3);
        y.limit(0);
        due("254 times 256: the SUM 255", y.lots(1, -1108769307, 1), 7);
        due("255 times 256: the SUM 1", y.lots(1, -1639822619, 1), 8);
        due("in mind alone", y.count(15), 0);
    }

    private static void lotsWrapAround() {
        sentence("(an int); (z without its sign's bit)");
        GuardOfSums x = oneSpanned();
        due("the sign's bit and 512: 2", x.lots(1, 1720162789, 1), 7);
        due("the sign's bit and 767: 2", x.lots(1, 1207961120, 1), 7);
        due("all bits but the sign's: 127", x.lots(1, -1493846240, 1), 8);
        due("all bits: 127", x.lots(1, 653637408, 1), 8);
        due("the least z", x.lots(20, Guards.LEAST, 0), 0);
        due("z and the sign's bit are one", x.lots(20, Guards.LEAST, 1), x.lots(20, 0, 1));
        due("z and the sign's bit are one", x.lots(20, Guards.GREATEST, 1), x.lots(20, -1, 1));
    }

    private static void lotsEightTimes() {
        sentence("LOTS: 8 times a SUM is asked");
        GuardOfSums x = oneSpanned();
        due("2 in the eighth", x.lots(1, -350767272, 1), 7);
        due("2 in the ninth", x.lots(1, -216242531, 1), 8);
        GuardOfSums none = new GuardOfSums();
        none.rule(3);
        none.limit(0);
        due("all of one guard", none.lots(1, 5, 1), 8);
        due("all of twenty", none.lots(20, 5, 1), 160);
        due("none JOINS", none.lots(20, 5, 0), 0);
    }

    private static void lotsGoOn() {
        sentence("LOTS: z goes on from one guard to the next");
        GuardOfSums x = oneSpanned();
        due("2 in the ninth, of two guards", x.lots(2, -216242531, 1), 15);
        due("2 in the eighth, of two guards", x.lots(2, -350767272, 1), 15);
        due("2 in the 160th alone", x.lots(20, -364903712, 1), 159);
        due("2 in the 161st alone", x.lots(20, 773146181, 1), 160);
    }

    private static void lotsEachFromNow() {
        sentence("LOTS with a seed z: n guards (1 .. 20), each from now: how many JOIN, of all");
        GuardOfSums x = new GuardOfSums();
        x.rule(3);
        x.limit(1);
        for (int n = 1; n <= 20; n++) {
            due("one of each " + n, x.lots(n, 1, 0), n);
        }
        due("in mind alone", x.count(0), 0);
        GuardOfSums y = Guards.full();
        due("of a full one", y.lots(20, 9, 0), 0);
        due("of a full one", y.lots(20, 9, 1), 160);
        // draws by 0: 158 192 21 119 154 20 194 92, by LIMIT 3 the first three JOIN: 159 193 22
        GuardOfSums z = new GuardOfSums();
        z.rule(3);
        z.limit(3);
        due("three JOIN", z.lots(1, 0, 0), 3);
        due("five are REFUSED", z.lots(1, 0, 1), 5);
    }

    private static void imageOfAll() {
        sentence("THE IMAGE: all that there is; ON from it all is as then");
        GuardOfSums x = Guards.tens();
        x.bounds(0, 5, 15);
        x.ask(0, 7, 0);
        x.changes(1, 66);
        x.rule(1);
        x.limit(9);
        due("RANK", x.image(), 1);
        x.changes(2, 77);
        x.ask(0, 24, 0);
        x.ask(0, 6, 0);
        x.tells(7, 1);
        x.bounds(0, 10, 10);
        x.bounds(8, 66, 66);
        x.rule(3);
        x.limit(0);
        due("RANK as then", x.on(), 1);
        due("RANK", x.count(0), 1);
        due("VARIABLES", x.count(1), 9);
        due("RULE", x.count(2), 1);
        due("LIMIT", x.count(3), 9);
        due("in rows", x.count(4), 7);
        due("VALUES", x.count(5), 406);
        due("VARIABLE", x.person(2, 1), 2);
        due("VALUE", x.person(7, 0), 80);
        due("LOW", x.variable(0, 1), 5);
        due("HIGH", x.variable(0, 2), 15);
        due("HIGH of a later one", x.variable(8, 2), 99);
        due("row", x.ledger(0, 2), 101);
        due("no second row", x.ledger(1, 0), -1);
        due("answer", x.answer(0), 60);
        due("PIVOTS", x.pivots(), 1);
        due("what it was told since may be asked again", x.would(0, 24, 0), 1);
        due("the next number", x.changes(3, 5), 9);
    }

    private static void imageWithout() {
        sentence("THE IMAGE: all that there is, but it, the ROW, letters, REFUSALS");
        GuardOfSums x = Guards.tens();
        x.row(1);
        Guards.spell(x, "r1;");
        x.person(8, 0);
        x.image();
        x.row(2);
        Guards.spell(x, "l09;");
        x.person(8, 0);
        x.ask(0, 1, 0);
        due("ON", x.on(), 0);
        due("the ROW goes on", x.count(6), 2);
        due("letters go on", x.count(7), 7);
        due("REFUSALS go on", x.count(11), 2);
        due("REFUSALS go on", x.count(15), 1);
        due("of these letters a guard", x.guard(), 2);
        due("the ROW, too", x.clear(), 2);
        due("it, too: ON again", x.on(), 0);
        due("LIMIT as then", x.count(3), 4);
    }

    private static void imageAgain() {
        sentence("THE IMAGE is taken");
        GuardOfSums x = Guards.tens();
        due("there is none", x.on(), -3);
        due("of a new one", x.image(), 0);
        x.ask(0, 3, 0);
        due("another in its place", x.image(), 1);
        x.ask(0, 12, 0);
        due("ON", x.on(), 1);
        due("12 again", x.ask(0, 12, 0), 70);
        due("ON again", x.on(), 1);
        due("what comes behind ON is not in it", x.count(0), 1);
        due("of a full one", Guards.full().image(), 9);
        GuardOfSums y = Guards.full();
        y.image();
        due("ON from a full one", y.on(), 9);
        due("PIVOTS", y.pivots(), 511);
    }

    private static void imageOfFractions() {
        sentence("ON from it all is as then: REDUCED, too");
        GuardOfSums x = new GuardOfSums();
        x.image();
        x.ask(2, 44, 3);
        fraction(x, 0, 3, 1, 3);
        x.on();
        x.ask(2, 44, 3);
        fraction(x, 0, 3, 1, 3);
        fraction(x, 0, 5, 1, 1);
        x.image();
        x.ask(2, 10, 2);
        // 2 of 1, 2 of 3
        fraction(x, 0, 3, 1, 1);
        fraction(x, 1, 3, 1, 3);
        x.on();
        fraction(x, 0, 3, 1, 3);
        x.ask(1, 8, 6);
        // -1 of 1, -1 of 2, 1 of 3: 1 0 -4/3 0 -1 and 0 1 1/3 0 1 of 1 .. 5
        fraction(x, 0, 1, 1, 1);
        fraction(x, 0, 2, 0, 1);
        fraction(x, 0, 3, -4, 3);
        fraction(x, 0, 5, -1, 1);
        fraction(x, 1, 3, 1, 3);
        x.learns(2, 255, 3, 0);
        x.lots(2, 5, 0);
        fraction(x, 0, 3, -4, 3);
    }
}
