/**
 * Terms, I: each sentence that names a boundary case (PEOPLE, VARIABLES, QUESTIONS, THE LEDGER,
 * RULES, TOLD, CHANGES, BOUNDS), with answers worked out by hand.
 */
public final class EdgesOfTermsTest {
    private static final Due DUE = new Due();
    private static final int LEAST = Guards.LEAST;
    private static final int GREATEST = Guards.GREATEST;

    public static void main(String[] args) {
        people();
        tenVariables();
        values();
        lowAndHighAtFirst();
        ownVariablesAtFirst();
        coefficientsOfItsVariable();
        sumOfThoseInA();
        bOfASumIsNoMatter();
        differenceOfEachOneToAll();
        nobodyInBoth();
        weighedModuloB();
        size();
        trueAnswer();
        noLedgerAtFirst();
        coefficientsAsTheyWereThen();
        spannedByFractions();
        spannedByNothing();
        rankOfTheFullLedger();
        fixedOther();
        fixedBySeveral();
        ruleAndLimitAtFirst();
        spannedChangesNothing();
        refusedJoinsNot();
        exact();
        sizedBelowTwo();
        sizedAboveSix();
        sizedIsExactToo();
        pairedJustTwo();
        pairedByFractions();
        pairedThatWasThere();
        pairedOverOldVariables();
        pairedIsExactToo();
        budgetAboveLimit();
        budgetLimitNought();
        budgetLimitTen();
        budgetIsExactToo();
        spannedByEveryRuleWhateverSize();
        toldForgetsBounds();
        toldOnlyIfFree();
        toldAgainBehindAChange();
        changesGivesTheNextNumber();
        changesLeavesTheOldOne();
        boundsAtTheValue();
        DUE.close("EdgesOfTermsTest");
    }

    private static void sentence(String words) {
        DUE.sentence(words);
    }

    private static void due(String call, long got, long want) {
        DUE.is(call, got, want);
    }

    private static void people() {
        sentence("PEOPLE 0 .. 7, always there");
        GuardOfSums x = Guards.of(5, 0, 0, 0, 0, 0, 0, 8);
        due("first", x.person(0, 0), 5);
        due("last", x.person(7, 0), 8);
        due("ahead of the first", x.person(-1, 0), -1);
        due("behind the last", x.person(8, 0), -1);
        x.changes(0, 1);
        x.changes(7, 2);
        due("no more by more VARIABLES", x.person(8, 0), -1);
        for (int person = 0; person < 8; person++) {
            due("still there " + person, x.person(person, 1), person == 0 ? 8 : person == 7 ? 9 : person);
        }
    }

    private static void tenVariables() {
        sentence("VARIABLES 0 .. as they come (10 at most)");
        GuardOfSums x = new GuardOfSums();
        due("at first", x.count(1), 8);
        due("8 is none yet", x.variable(8, 0), -1);
        due("the ninth", x.changes(3, 1), 8);
        due("8", x.variable(8, 0), 1);
        due("9 is none yet", x.variable(9, 0), -1);
        due("the tenth", x.changes(3, 2), 9);
        due("9", x.variable(9, 0), 2);
        due("ten", x.count(1), 10);
        due("no eleventh", x.changes(3, 3), -6);
        due("ten", x.count(1), 10);
        due("10 is none", x.variable(10, 0), -1);
        due("as before", x.person(3, 1), 9);
        due("as before", x.person(3, 0), 2);
    }

    private static void values() {
        sentence("a VALUE (0 .. 99)");
        GuardOfSums x = new GuardOfSums();
        due("greatest", x.tells(0, 99), 0);
        due("least", x.tells(0, 0), 99);
        due("greatest", x.tells(0, 99), 0);
        due("beyond", x.tells(0, 100), -6);
        due("below", x.tells(0, -1), -4);
        due("as before", x.person(0, 0), 99);
        due("changes: greatest", x.changes(1, 99), 8);
        due("changes: beyond", x.changes(1, 100), -6);
        due("changes: below", x.changes(1, -1), -4);
        due("changes: least", x.changes(1, 0), 9);
    }

    private static void lowAndHighAtFirst() {
        sentence("LOW and HIGH (0 and 99 at first)");
        GuardOfSums x = new GuardOfSums();
        x.changes(0, 50);
        x.changes(0, 60);
        for (int v = 0; v < 10; v++) {
            due("LOW " + v, x.variable(v, 1), 0);
            due("HIGH " + v, x.variable(v, 2), 99);
        }
    }

    private static void ownVariablesAtFirst() {
        sentence("Each of PEOPLE has a VARIABLE: 0 .. 7 at first, VALUE 0");
        GuardOfSums x = new GuardOfSums();
        for (int person = 0; person < 8; person++) {
            due("VARIABLE of " + person, x.person(person, 1), person);
            due("VALUE of " + person, x.person(person, 0), 0);
        }
    }

    private static void coefficientsOfItsVariable() {
        sentence("each of PEOPLE has a WEIGHT in it, its VARIABLE has that COEFFICIENT, all other VARIABLES 0");
        GuardOfSums x = Guards.tens();
        x.changes(1, 3);
        x.changes(1, 4);
        due("all", x.ask(0, 255, 0), 344);
        int[] want = {101, 100, 101, 101, 101, 101, 101, 101, 100, 101};
        for (int v = 0; v < 10; v++) {
            due("COEFFICIENT of " + v, x.ledger(0, v), want[v]);
        }
    }

    private static void sumOfThoseInA() {
        sentence("0 SUM: WEIGHT 1 of PEOPLE in a (bits 0 .. 7, 1 .. 255), else 0");
        GuardOfSums x = Guards.tens();
        due("least a", x.would(0, 1, 0), 2);
        due("greatest a", x.would(0, 255, 0), 1);
        due("below", x.would(0, 0, 0), -4);
        due("beyond", x.would(0, 256, 0), -6);
        due("the least bit and the greatest", x.ask(0, 129, 0), 90);
        for (int v = 0; v < 8; v++) {
            due("COEFFICIENT of " + v, x.ledger(0, v), v == 0 || v == 7 ? 101 : 100);
        }
    }

    private static void bOfASumIsNoMatter() {
        sentence("b of a SUM is not looked at");
        int[] all = {LEAST, -1, 0, 3, 255, 256, GREATEST};
        for (int b : all) {
            GuardOfSums x = Guards.tens();
            due("would, b " + b, x.would(0, 3, b), 1);
            due("learns, b " + b, x.learns(0, 3, b, 0), 31);
            due("ask, b " + b, x.ask(0, 3, b), 30);
            due("no -1 in it", x.ledger(0, 0), 101);
            due("no -1 in it", x.ledger(0, 2), 100);
        }
    }

    private static void differenceOfEachOneToAll() {
        sentence("1 DIFFERENCE: 1 of those in a, -1 of those in b (bits, each 1 .. 255)");
        GuardOfSums x = Guards.tens();
        due("a 0", x.would(1, 0, 1), -4);
        due("b 0", x.would(1, 1, 0), -4);
        due("a 256", x.would(1, 256, 1), -6);
        due("b 256", x.would(1, 1, 256), -6);
        due("the least two", x.would(1, 1, 2), 1);
        due("a of all but one", x.ask(1, 254, 1), 340);
        due("b of one", x.ledger(0, 0), 99);
        due("a of one", x.ledger(0, 7), 101);
        due("b of all but one", x.ask(1, 128, 127), -200);
        due("a 255 takes nobody into b", x.would(1, 255, 255), -3);
    }

    private static void nobodyInBoth() {
        sentence("nobody in both");
        GuardOfSums x = Guards.tens();
        due("the first", x.would(1, 1, 1), -3);
        due("the last", x.would(1, 192, 160), -3);
        due("all", x.would(1, 255, 255), -3);
        due("nobody", x.would(1, 170, 85), 1);
        due("a WEIGHED one has b for itself", x.would(2, 3, 3), 1);
        due("a SUM, too", x.would(0, 3, 3), 1);
    }

    private static void weighedModuloB() {
        sentence("2 WEIGHED: of those in a (1 .. 255) 1 more than their number modulo b (1 .. 3), else 0");
        int[][] weights = {
            {1, 1, 1, 1, 1, 1, 1, 1},
            {1, 2, 1, 2, 1, 2, 1, 2},
            {1, 2, 3, 1, 2, 3, 1, 2}};
        for (int b = 1; b <= 3; b++) {
            GuardOfSums x = new GuardOfSums();
            due("all, b " + b, x.ask(2, 255, b), 0);
            for (int v = 0; v < 8; v++) {
                due("b " + b + ", WEIGHT of " + v, x.ledger(0, v), 100 + weights[b - 1][v]);
            }
        }
        GuardOfSums x = new GuardOfSums();
        x.ask(2, 72, 3);
        due("of one who is not in a", x.ledger(0, 0), 100);
        due("of one who is", x.ledger(0, 3), 101);
        due("b 0", x.would(2, 255, 0), -4);
        due("b 4", x.would(2, 255, 4), -6);
        due("a 0", x.would(2, 0, 1), -4);
        due("a 256", x.would(2, 256, 1), -6);
        due("a 1", x.would(2, 1, 1), 2);
    }

    private static void size() {
        sentence("SIZE: how many of PEOPLE have a WEIGHT that is not 0");
        GuardOfSums x = new GuardOfSums();
        x.rule(1);
        due("six in a and b", x.would(1, 21, 42), 1);
        due("seven in a and b", x.would(1, 85, 42), 2);
        due("seven in b and a", x.would(1, 1, 126), 2);
        due("six of any WEIGHTS", x.would(2, 63, 3), 1);
        due("seven of any WEIGHTS", x.would(2, 127, 3), 2);
        due("two of several WEIGHTS", x.would(2, 6, 3), 1);
    }

    private static void trueAnswer() {
        sentence("TRUE ANSWER: all WEIGHTS times VALUES, together");
        GuardOfSums most = Guards.of(99, 99, 99, 99, 99, 99, 99, 99);
        due("the greatest there is: 15 times 99", most.ask(2, 255, 3), 1485);
        due("stands in THE LEDGER", most.answer(0), 1485);
        GuardOfSums x = Guards.of(0, 99, 99, 99, 99, 99, 99, 99);
        due("the least there is: 7 times 99", x.ask(1, 1, 254), -693);
        due("stands in THE LEDGER", x.answer(0), -693);
        due("the other way round it is SPANNED", x.ask(1, 254, 1), 693);
        due("one row", x.count(0), 1);
        due("nothing", new GuardOfSums().ask(0, 255, 0), 0);
    }

    private static void noLedgerAtFirst() {
        sentence("THE LEDGER: none at first");
        GuardOfSums x = new GuardOfSums();
        due("RANK", x.count(0), 0);
        due("row", x.ledger(0, 0), -1);
        due("answer", x.answer(0), Guards.LONG_NOBODY);
        due("REDUCED", x.reduced(0, 0, 0), Guards.LONG_NOBODY);
        due("PIVOTS", x.pivots(), 0);
        due("in it", x.count(4), 0);
    }

    private static void coefficientsAsTheyWereThen() {
        sentence("QUESTIONS that JOINED (COEFFICIENTS as they were then, TRUE ANSWER), in order");
        GuardOfSums x = Guards.tens();
        x.ask(0, 3, 0);
        x.changes(0, 99);
        due("COEFFICIENT as it was", x.ledger(0, 0), 101);
        due("a later VARIABLE has 0", x.ledger(0, 8), 100);
        due("answer as it was", x.answer(0), 30);
        due("the same people are another QUESTION now", x.would(0, 3, 0), 1);
        due("with another answer", x.ask(0, 3, 0), 119);
        due("behind the first", x.answer(1), 119);
        due("the first is the first", x.answer(0), 30);
        due("COEFFICIENT", x.ledger(1, 8), 101);
        due("COEFFICIENT", x.ledger(1, 0), 100);
    }

    private static void spannedByFractions() {
        sentence("SPANNED: COEFFICIENTS that are a sum of LEDGER rows, each times some fraction");
        GuardOfSums x = Guards.tens();
        x.ask(0, 15, 0);
        x.ask(1, 3, 12);
        due("half of both", x.would(0, 3, 0), 0);
        due("half of one less half of the other", x.would(0, 12, 0), 0);
        due("once", x.would(0, 15, 0), 0);
        due("less once", x.would(1, 12, 3), 0);
        due("1 2 1 2 is none: 0 1 0 1 is left of it", x.would(2, 15, 2), 1);
        GuardOfSums y = Guards.tens();
        y.ask(2, 255, 2);
        y.ask(0, 255, 0);
        // 2 1 2 1 2 1 2 1 is 3 times the second less the first
        due("those of even numbers: twice the second less the first", y.would(0, 85, 0), 0);
        due("those of odd numbers: the first less the second", y.would(0, 170, 0), 0);
        due("their difference", y.would(1, 85, 170), 0);
        due("RANK", y.count(0), 2);
    }

    private static void spannedByNothing() {
        sentence("SPANNED: by an empty LEDGER nothing is");
        GuardOfSums x = new GuardOfSums();
        due("no SUM", x.sums(3), 0);
        due("no DIFFERENCE", x.would(1, 1, 2), 1);
        due("no WEIGHED one", x.would(2, 3, 1), 1);
    }

    private static void rankOfTheFullLedger() {
        sentence("RANK: how many rows THE LEDGER has (none of it is SPANNED by the others)");
        GuardOfSums x = Guards.full();
        due("of ten VARIABLES nine", x.count(0), 9);
        due("the first row", x.answer(0), -10);
        due("the last row", x.answer(8), 3);
        due("no tenth row", x.answer(9), Guards.LONG_NOBODY);
        due("no tenth row", x.ledger(9, 0), -1);
        for (int kind = 0; kind < 2; kind++) {
            due("all that is not SPANNED would fix all", x.would(2 * kind, 255, 1), 2);
        }
        due("a SPANNED one joins not", x.ask(1, 2, 4), -10);
        due("nine", x.count(0), 9);
    }

    private static void fixedOther() {
        sentence("FIXED: a VARIABLE whose COEFFICIENT 1 alone (all others 0) is SPANNED");
        GuardOfSums x = Guards.tens();
        x.ask(0, 7, 0);
        due("it may be one that is not asked for", x.ask(0, 6, 0), 1000000005);
        due("or one that is", x.ask(0, 15, 0), 1000000005);
        due("two more fix none", x.ask(0, 31, 0), 150);
        due("one is fixed by the three and the two", x.ask(0, 23, 0), 1000000005);
        GuardOfSums y = Guards.tens();
        y.ask(0, 3, 0);
        y.changes(1, 21);
        due("one that nobody has any more may be FIXED", y.would(0, 1, 0), 2);
        due("the new one is another", y.would(0, 3, 0), 1);
    }

    private static void fixedBySeveral() {
        sentence("FIXED: by a sum of several rows times fractions");
        GuardOfSums x = Guards.tens();
        x.ask(0, 3, 0);
        x.ask(0, 6, 0);
        due("half of the three fixes", x.would(0, 5, 0), 2);
        due("the difference is there already", x.would(1, 1, 4), 0);
        GuardOfSums y = Guards.tens();
        y.ask(0, 3, 0);
        y.ask(0, 6, 0);
        y.ask(0, 12, 0);
        due("an even ring fixes none: it is SPANNED", y.would(0, 9, 0), 0);
        y.ask(0, 24, 0);
        due("an odd ring fixes", y.would(0, 17, 0), 2);
    }

    private static void ruleAndLimitAtFirst() {
        sentence("THE GUARD has a RULE (0 at first) and a LIMIT (0 .. 10; 4 at first)");
        GuardOfSums x = new GuardOfSums();
        due("RULE", x.count(2), 0);
        due("LIMIT", x.count(3), 4);
        due("below", x.limit(-1), -4);
        due("least", x.limit(0), 4);
        due("greatest", x.limit(10), 0);
        due("beyond", x.limit(11), -6);
        due("LIMIT", x.count(3), 10);
        GuardOfSums y = new GuardOfSums();
        y.rule(3);
        int[] pairs = {3, 12, 48, 192};
        for (int a : pairs) {
            due("four join", y.ask(0, a, 0), 0);
        }
        due("the fifth does not", y.ask(0, 10, 0), 1000000005);
    }

    private static void spannedChangesNothing() {
        sentence("A QUESTION that is SPANNED is answered, and nothing changes");
        GuardOfSums x = Guards.tens();
        x.ask(0, 3, 0);
        x.ask(0, 12, 0);
        due("answered", x.ask(0, 15, 0), 100);
        due("answered", x.ask(1, 12, 3), 40);
        due("RANK", x.count(0), 2);
        due("rows", x.answer(1), 70);
        due("no REFUSAL", x.count(15), 0);
        due("PIVOTS", x.pivots(), 5);
    }

    private static void refusedJoinsNot() {
        sentence("Any other one is REFUSED, if THE LEDGER with it as a row more is forbidden, else it JOINS");
        GuardOfSums x = Guards.tens();
        x.ask(0, 7, 0);
        due("REFUSED", x.ask(0, 3, 0), 1000000005);
        due("RANK", x.count(0), 1);
        due("REFUSED again", x.would(0, 3, 0), 2);
        due("what it would have SPANNED, too", x.would(0, 4, 0), 2);
        due("JOINS", x.ask(0, 24, 0), 90);
        due("RANK", x.count(0), 2);
        due("SPANNED from then on", x.would(0, 24, 0), 0);
    }

    private static void exact() {
        sentence("0 EXACT: some VARIABLE is FIXED then");
        GuardOfSums x = new GuardOfSums();
        for (int person = 0; person < 8; person++) {
            due("one alone " + person, x.would(0, 1 << person, 0), 2);
            due("one alone, weighed " + person, x.would(2, 1 << person, 3), 2);
        }
        due("two", x.would(0, 3, 0), 1);
        due("all", x.would(0, 255, 0), 1);
        due("pairs", x.ask(0, 3, 0), 0);
        due("any RANK", x.limit(0), 4);
        due("any RANK", x.would(0, 12, 0), 1);
    }

    private static void sizedBelowTwo() {
        sentence("1 SIZED: SIZE is below 2");
        GuardOfSums x = new GuardOfSums();
        x.rule(1);
        due("1", x.would(0, 64, 0), 2);
        due("2", x.would(0, 65, 0), 1);
    }

    private static void sizedAboveSix() {
        sentence("1 SIZED: SIZE is above 6");
        GuardOfSums x = new GuardOfSums();
        x.rule(1);
        due("6", x.would(0, 252, 0), 1);
        due("7", x.would(0, 254, 0), 2);
        due("8", x.would(0, 255, 0), 2);
        x.rule(0);
        due("7 by EXACT", x.would(0, 254, 0), 1);
    }

    private static void sizedIsExactToo() {
        sentence("1 SIZED: as EXACT");
        GuardOfSums x = new GuardOfSums();
        x.rule(1);
        x.ask(0, 63, 0);
        due("5 of the 6", x.would(0, 31, 0), 2);
        due("4 of the 6", x.would(0, 15, 0), 1);
        due("pairs are no matter", x.ask(0, 15, 0), 0);
        due("RANK is no matter", x.limit(0), 4);
        due("RANK is no matter", x.would(0, 192, 0), 1);
    }

    private static void pairedJustTwo() {
        sentence("2 PAIRED: some COEFFICIENTS, just two of which are not 0, are SPANNED then");
        GuardOfSums x = new GuardOfSums();
        x.rule(2);
        due("a SUM of two", x.would(0, 129, 0), 2);
        due("a DIFFERENCE of two", x.would(1, 1, 128), 2);
        due("two WEIGHED ones", x.would(2, 6, 3), 2);
        due("three", x.would(0, 131, 0), 1);
        due("a DIFFERENCE of three", x.would(1, 1, 130), 1);
        due("eight", x.would(0, 255, 0), 1);
    }

    private static void pairedByFractions() {
        sentence("2 PAIRED: SPANNED by rows times fractions");
        GuardOfSums x = new GuardOfSums();
        x.rule(2);
        x.ask(2, 7, 3);
        due("1 1 1 0 behind 1 2 3 0: once less once is 0 1 2 0", x.would(0, 7, 0), 2);
        due("1 1 1 1 behind 1 2 3 0 leaves three at least", x.would(0, 15, 0), 1);
        x.ask(0, 15, 0);
        due("0 0 1 1 behind both: 1 1 0 0 is left", x.would(0, 12, 0), 2);
        due("0 0 0 1 1 1 behind both leaves three at least", x.ask(0, 56, 0), 0);
        due("1 1 1 0 -1 -1 is 1 1 1 1 less 0 0 0 1 1 1", x.would(1, 7, 48), 0);
        due("1 1 1 0 1 less 1 1 1 1 is a pair", x.would(0, 23, 0), 2);
        due("RANK", x.count(0), 3);
    }

    private static void pairedThatWasThere() {
        sentence("2 PAIRED: a pair that was there before it forbids all that is not SPANNED");
        GuardOfSums x = new GuardOfSums();
        x.ask(0, 3, 0);
        x.rule(2);
        due("three others", x.would(0, 56, 0), 2);
        due("the pair itself", x.would(0, 3, 0), 0);
        due("no SUM joins", x.sums(1), 0);
        due("one is SPANNED", x.sums(3), 1);
    }

    private static void pairedOverOldVariables() {
        sentence("2 PAIRED: some COEFFICIENTS, old VARIABLES too");
        GuardOfSums x = new GuardOfSums();
        x.rule(2);
        x.ask(0, 7, 0);
        x.changes(0, 1);
        due("old less new are two", x.would(0, 7, 0), 2);
        due("with one more they are three", x.would(0, 15, 0), 1);
        x.rule(0);
        due("by EXACT", x.would(0, 7, 0), 1);
    }

    private static void pairedIsExactToo() {
        sentence("2 PAIRED: as EXACT");
        GuardOfSums x = new GuardOfSums();
        x.rule(2);
        due("one alone", x.would(0, 1, 0), 2);
        x.ask(0, 31, 0);
        due("four of five", x.would(0, 15, 0), 2);
        due("any SIZE", x.would(0, 255, 0), 1);
        x.limit(0);
        due("any RANK", x.would(0, 224, 0), 1);
    }

    private static void budgetAboveLimit() {
        sentence("3 BUDGET: RANK is above LIMIT then");
        GuardOfSums x = new GuardOfSums();
        x.rule(3);
        x.limit(2);
        due("RANK 1", x.ask(0, 3, 0), 0);
        due("RANK 2, just LIMIT", x.ask(0, 12, 0), 0);
        due("RANK 3", x.ask(0, 48, 0), 1000000005);
        due("SPANNED is no matter", x.ask(0, 15, 0), 0);
        x.limit(3);
        due("LIMIT 3", x.ask(0, 48, 0), 0);
        x.limit(1);
        due("LIMIT is below RANK", x.would(0, 192, 0), 2);
        due("SPANNED", x.would(0, 63, 0), 0);
        due("RANK stays", x.count(0), 3);
    }

    private static void budgetLimitNought() {
        sentence("3 BUDGET: LIMIT 0");
        GuardOfSums x = new GuardOfSums();
        x.rule(3);
        x.limit(0);
        due("none joins", x.sums(1), 0);
        due("all are REFUSED", x.sums(2), 255);
        x.limit(1);
        due("LIMIT 1", x.sums(1), 247);
    }

    private static void budgetLimitTen() {
        sentence("3 BUDGET: LIMIT 10");
        GuardOfSums x = Guards.nearlyFull();
        x.rule(3);
        x.limit(8);
        due("RANK 9, LIMIT 8", x.would(0, 65, 0), 2);
        x.limit(9);
        due("RANK 9, LIMIT 9", x.would(0, 65, 0), 1);
        x.limit(10);
        due("RANK 9, LIMIT 10", x.ask(0, 65, 0), 17);
        due("RANK", x.count(0), 9);
    }

    private static void budgetIsExactToo() {
        sentence("3 BUDGET: as EXACT");
        GuardOfSums x = new GuardOfSums();
        x.rule(3);
        due("one alone", x.would(0, 2, 0), 2);
        x.ask(0, 3, 0);
        due("one more", x.would(0, 7, 0), 2);
        due("pairs are no matter", x.would(0, 12, 0), 1);
        due("SIZE is no matter", x.would(0, 252, 0), 1);
        due("SIZE is no matter", x.would(0, 255, 0), 1);
    }

    private static void spannedByEveryRuleWhateverSize() {
        sentence("A QUESTION that is SPANNED is answered by every RULE, whatever its SIZE");
        GuardOfSums x = Guards.tens();
        x.ask(0, 3, 0);
        x.ask(0, 124, 0);
        x.limit(1);
        for (int rule = 0; rule < 4; rule++) {
            x.rule(rule);
            due("SIZE 7 by RULE " + rule, x.ask(0, 127, 0), 280);
            due("SIZE 2 by RULE " + rule, x.ask(0, 3, 0), 30);
            due("would by RULE " + rule, x.would(0, 127, 0), 0);
            due("how many by RULE " + rule, x.sums(3), 3);
        }
        x.rule(0);
        x.changes(0, 1);
        due("with another VARIABLE it is another one", x.would(0, 127, 0), 1);
        x.rule(1);
        due("that has SIZE 7", x.would(0, 127, 0), 2);
    }

    private static void toldForgetsBounds() {
        sentence("TOLD: VALUE of one's VARIABLE becomes another one, LOW, HIGH 0 and 99; tells() forgets BOUNDS");
        GuardOfSums x = Guards.tens();
        x.bounds(0, 10, 10);
        due("VALUE it was", x.tells(0, 98), 10);
        due("LOW", x.variable(0, 1), 0);
        due("HIGH", x.variable(0, 2), 99);
        x.bounds(0, 98, 99);
        due("to the same VALUE", x.tells(0, 98), 98);
        due("LOW", x.variable(0, 1), 0);
        due("HIGH", x.variable(0, 2), 99);
        x.bounds(1, 20, 20);
        due("of its VARIABLE alone", x.tells(0, 1), 98);
        due("LOW of another", x.variable(1, 1), 20);
    }

    private static void toldOnlyIfFree() {
        sentence("TOLD: no LEDGER row may have a COEFFICIENT of it that is not 0");
        GuardOfSums x = Guards.tens();
        x.bounds(2, 30, 30);
        x.ask(1, 3, 12);
        due("1", x.tells(1, 5), -3);
        due("less than 0", x.tells(2, 5), -3);
        due("VALUE as before", x.person(2, 0), 30);
        due("LOW as before", x.variable(2, 1), 30);
        due("0", x.tells(4, 5), 50);
        x.ask(0, 48, 0);
        due("in the second row", x.tells(4, 6), -3);
        due("in none", x.tells(7, 6), 80);
        GuardOfSums y = Guards.tens();
        y.ask(0, 15, 0);
        y.ask(0, 255, 0);
        // REDUCED has 0 of VARIABLE 0 in its second row, and 4 .. 7 stand there alone
        due("by its own row, not by REDUCED", y.tells(4, 1), -3);
        due("by its own row, not by REDUCED", y.tells(0, 1), -3);
    }

    private static void toldAgainBehindAChange() {
        sentence("TOLD: one's VARIABLE, the one that one has now");
        GuardOfSums x = Guards.tens();
        x.ask(0, 3, 0);
        due("not FREE", x.tells(0, 5), -3);
        x.changes(0, 6);
        due("the new one is FREE", x.tells(0, 7), 6);
        due("VALUE of the old one stays", x.variable(0, 0), 10);
        due("VALUE of the new one", x.variable(8, 0), 7);
        x.ask(0, 3, 0);
        due("not FREE any more", x.tells(0, 8), -3);
    }

    private static void changesGivesTheNextNumber() {
        sentence("CHANGES: one has a new VARIABLE, the next number, with that VALUE, LOW 0, HIGH 99");
        GuardOfSums x = Guards.tens();
        due("the next", x.changes(7, 81), 8);
        due("the next", x.changes(0, 11), 9);
        due("VARIABLE", x.person(7, 1), 8);
        due("VARIABLE", x.person(0, 1), 9);
        due("VALUE", x.variable(8, 0), 81);
        due("VALUE", x.variable(9, 0), 11);
        due("LOW", x.variable(9, 1), 0);
        due("HIGH", x.variable(9, 2), 99);
        due("FREE", x.variable(9, 6), 1);
        GuardOfSums y = new GuardOfSums();
        y.image();
        y.changes(0, 50);
        y.bounds(8, 50, 50);
        y.on();
        due("the number again", y.changes(1, 60), 8);
        due("LOW of another one's bounds is not in it", y.variable(8, 1), 0);
        due("HIGH of another one's bounds is not in it", y.variable(8, 2), 99);
    }

    private static void changesLeavesTheOldOne() {
        sentence("CHANGES: (the old one stays as it is)");
        GuardOfSums x = Guards.tens();
        x.bounds(0, 5, 15);
        x.ask(0, 3, 0);
        x.changes(0, 99);
        due("VALUE", x.variable(0, 0), 10);
        due("LOW", x.variable(0, 1), 5);
        due("HIGH", x.variable(0, 2), 15);
        due("LEAST of the other by it", x.variable(1, 3), 15);
        due("MOST of the other by it", x.variable(1, 4), 25);
        due("not FREE", x.variable(0, 6), 0);
        due("its BOUNDS may be told", x.bounds(0, 10, 10), 1);
        due("KNOWN", x.known(), 3);
        due("all PEOPLE without it", x.count(5), 449);
    }

    private static void boundsAtTheValue() {
        sentence("BOUNDS of a VARIABLE: LOW is not above its VALUE, HIGH not below");
        GuardOfSums x = Guards.tens();
        due("both at it", x.bounds(3, 40, 40), 1);
        due("LOW above it", x.bounds(3, 41, 99), -3);
        due("HIGH below it", x.bounds(3, 0, 39), -3);
        due("LOW above HIGH", x.bounds(3, 41, 39), -3);
        due("LOW as before", x.variable(3, 1), 40);
        due("HIGH as before", x.variable(3, 2), 40);
        due("the widest", x.bounds(3, 0, 99), 1);
        due("LOW", x.variable(3, 1), 0);
        due("HIGH", x.variable(3, 2), 99);
        GuardOfSums y = Guards.of(0, 99);
        due("least", y.bounds(0, 0, 0), 1);
        due("greatest", y.bounds(1, 99, 99), 1);
        due("beyond", y.bounds(1, 99, 100), -6);
        due("below", y.bounds(0, -1, 0), -4);
    }
}
