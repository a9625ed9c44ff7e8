/** Each promise of the document by runs whose answers were worked out by hand. */
public final class PromisesTest {
    private static final Due DUE = new Due();
    private static final int LEAST = Guards.LEAST;
    private static final int GREATEST = Guards.GREATEST;
    private static final long LONG_NOBODY = Guards.LONG_NOBODY;
    private static final long LONG_OTHER = Guards.LONG_OTHER;

    public static void main(String[] args) {
        newObject();
        letter();
        guardForms();
        guardSense();
        guardStatements();
        person();
        variable();
        tells();
        changes();
        bounds();
        ruleAndLimit();
        ask();
        spannedByEveryRule();
        would();
        rules();
        sums();
        ledgerAndAnswer();
        reduced();
        reducedOverOldVariables();
        attack();
        known();
        narrowedByRounds();
        learns();
        order();
        two();
        cheapest();
        mean();
        share();
        which();
        row();
        judge();
        clear();
        lots();
        image();
        count();
        refusalsAreCounted();
        DUE.close("PromisesTest");
    }

    private static void due(String call, long got, long want) {
        DUE.is(call, got, want);
    }

    private static void form(String text, int want) {
        due("1 guard " + text, Guards.guardOf(new GuardOfSums(), text), want);
    }

    private static void newObject() {
        GuardOfSums x = new GuardOfSums();
        for (int person = 0; person < 8; person++) {
            due("1 value", x.person(person, 0), 0);
            due("1 variable", x.person(person, 1), person);
            due("1 low", x.variable(person, 1), 0);
            due("1 high", x.variable(person, 2), 99);
        }
        due("1 rank", x.count(0), 0);
        due("1 variables", x.count(1), 8);
        due("1 rule", x.count(2), 0);
        due("1 limit", x.count(3), 4);
        for (int what = 4; what < 17; what++) {
            due("1 count " + what, x.count(what), what < 8 || what > 10 ? 0 : -9);
        }
        due("1 no image", x.on(), -3);
    }

    private static void letter() {
        GuardOfSums x = new GuardOfSums();
        due("2 below", x.letter(-1), -4);
        due("2 least", x.letter(LEAST), -4);
        due("2 above", x.letter(256), -6);
        due("2 greatest", x.letter(GREATEST), -6);
        for (int i = 1; i <= 96; i++) {
            due("2 letter", x.letter(i == 1 ? 0 : 255), i);
        }
        due("2 no room", x.letter(0), -6);
        due("2 below goes ahead of no room", x.letter(-1), -4);
        due("2 count", x.count(7), 96);
        due("3 none of it", x.guard(), -1000);
        due("2 again", x.letter(5), 1);
    }

    private static void guardForms() {
        form("", -1000);
        form("x", -1000);
        form("V010;", -1000);
        form(";", -1000);
        form("v", -1001);
        form("v01", -1003);
        form("v010", -1004);
        form("v010v", -1004);
        form("v010;", 1);
        form("v010;;", -1005);
        form("v01/;", -1003);
        form("v0:0;", -1002);
        form("v01;", -1003);
        form("c0100;", -1004);
        form("b00000;", -1006);
        form("b0000990;", -1007);
        form("r12;", -1002);
        form("l1;", -1002);
        form("s11111111", -1009);
        form("d111111112;", -1009);
        form("w11111111;", -1009);
        form("w111111111;", 1);
        // kind 1 goes ahead of kind 2 wherever it is
        form("v810;v", -1006);
        form("v810;", -2000);
        form("r4;s1111111;", -1011);
        String many = "r1;r1;r1;r1;r1;r1;r1;r1;r1;r1;r1;r1;r1;r1;r1;r1;";
        form(many + many, 32);
        form(many + many.substring(0, 45) + "v01", -1096);
        form(many + many.substring(0, 45) + "x0;", -1093);
    }

    private static void guardSense() {
        form("v900;", -2000);
        form("c800;", -2000);
        form("v710;", 1);
        form("r4;", -2000);
        form("r9;", -2000);
        form("l11;", -2000);
        form("l10;", 1);
        form("l00;", 1);
        form("b080099;", -2000);
        form("b990099;", -2000);
        form("b000199;", -2000);
        form("b070000;", 1);
        form("v020;b001020;", 2);
        form("v020;b002119;", -2005);
        form("v020;b002199;", -2005);
        form("v020;b000019;", -2005);
        form("s00000000;", -2000);
        form("s00000003;", -2000);
        form("s90000003;", 1);
        form("d10000003;", -2000);
        form("d10000002;", 1);
        form("d12300000;", -2000);
        form("d12000009;", -2000);
        form("d11111111;", -2000);
        form("d22222222;", -2000);
        form("w000000001;", -2000);
        form("w110000000;", -2000);
        form("w110000004;", -2000);
        form("w170000003;", 1);
        // behind all ahead of it
        form("s11000000;v010;", -2010);
        form("s11000000;v210;", 2);
        form("c011;c122;b090000;", -2010);
        form("c011;c122;b090099;", 3);
        form("c011;c122;c233;", -2010);
        form("s11000000;s10000000;", -2010);
        form("r1;s11111110;", -2003);
        form("r3;l01;s11000000;s00110000;", -2017);
        form("r2;s11000000;", -2003);
        form("s11000000;s11000000;", 2);
        // a changed one may be TOLD again, nobody asks about the old one
        form("s11000000;c055;v056;", 3);
    }

    private static void guardStatements() {
        GuardOfSums x = Guards.tens();
        x.bounds(0, 5, 15);
        due("3 all or nothing", Guards.guardOf(x, "v099;c155;b020040;r3;l09;s11000000;v811;"), -2035);
        due("3 value as before", x.person(0, 0), 10);
        due("3 bounds as before", x.variable(0, 2), 15);
        due("3 variables as before", x.count(1), 8);
        due("3 rule as before", x.count(2), 0);
        due("3 limit as before", x.count(3), 4);
        due("3 rank as before", x.count(0), 0);
        due("3 letters are no more", x.count(7), 0);
        for (int what = 11; what < 17; what++) {
            due("3 nothing is counted", x.count(what), 0);
        }
        due("3 six", Guards.guardOf(x, "v099;c155;b020040;r3;l09;s11000000;"), 6);
        due("3 letters are no more", x.count(7), 0);
        due("3 told", x.person(0, 0), 99);
        due("3 told forgets bounds", x.variable(0, 2), 99);
        due("3 changed", x.person(1, 1), 8);
        due("3 changed value", x.person(1, 0), 55);
        due("3 the old one stays", x.variable(1, 0), 20);
        due("3 bounds", x.variable(2, 2), 40);
        due("3 rule", x.count(2), 3);
        due("3 limit", x.count(3), 9);
        due("3 rank", x.count(0), 1);
        due("3 joined with the new variable", x.ledger(0, 8), 101);
        due("3 not with the old one", x.ledger(0, 1), 100);
        due("3 answer", x.answer(0), 154);
        due("3 difference", Guards.guardOf(x, "d00120000;w000011113;"), 2);
        due("3 difference a", x.ledger(1, 2), 101);
        due("3 difference b", x.ledger(1, 3), 99);
        due("3 difference answer", x.answer(1), -10);
        due("3 weighed 4", x.ledger(2, 4), 102);
        due("3 weighed 5", x.ledger(2, 5), 103);
        due("3 weighed 6", x.ledger(2, 6), 101);
        due("3 weighed 7", x.ledger(2, 7), 102);
    }

    private static void person() {
        GuardOfSums x = Guards.tens();
        due("4 value", x.person(7, 0), 80);
        due("4 variable", x.person(7, 1), 7);
        due("4 free", x.person(7, 2), 1);
        x.ask(0, 192, 0);
        due("4 not free", x.person(7, 2), 0);
        x.changes(7, 5);
        due("4 new value", x.person(7, 0), 5);
        due("4 new variable", x.person(7, 1), 8);
        due("4 new one is free", x.person(7, 2), 1);
        due("4 nobody", x.person(8, 0), -1);
        due("4 nobody", x.person(-1, 3), -1);
        due("4 nobody", x.person(LEAST, 0), -1);
        due("4 other", x.person(0, 3), -2);
        due("4 other", x.person(0, -1), -2);
        due("4 other", x.person(0, GREATEST), -2);
    }

    private static void variable() {
        GuardOfSums x = Guards.tens();
        x.bounds(0, 8, 12);
        x.ask(0, 3, 0);
        int[] want = {20, 0, 99, 18, 22, 5, 0};
        for (int what = 0; what < 7; what++) {
            due("5 variable " + what, x.variable(1, what), want[what]);
        }
        due("5 free", x.variable(2, 6), 1);
        due("5 nobody", x.variable(8, 0), -1);
        due("5 nobody goes ahead", x.variable(-1, 7), -1);
        due("5 nobody", x.variable(GREATEST, 0), -1);
        due("5 other", x.variable(0, 7), -2);
        due("5 other", x.variable(0, -1), -2);
        x.changes(0, 3);
        due("5 the new one", x.variable(8, 0), 3);
        due("5 the old one stays", x.variable(0, 2), 12);
        due("5 the old one is not free", x.variable(0, 6), 0);
    }

    private static void tells() {
        GuardOfSums x = new GuardOfSums();
        due("6 it was", x.tells(0, 99), 0);
        due("6 it was", x.tells(0, 5), 99);
        x.bounds(0, 5, 5);
        due("6 forgets bounds", x.tells(0, 5), 5);
        due("6 low", x.variable(0, 1), 0);
        due("6 high", x.variable(0, 2), 99);
        due("6 nobody", x.tells(8, -1), -1);
        due("6 nobody", x.tells(-1, 5), -1);
        due("6 below", x.tells(0, -1), -4);
        due("6 above", x.tells(0, 100), -6);
        x.ask(0, 3, 0);
        due("6 below goes ahead of state", x.tells(0, LEAST), -4);
        due("6 above goes ahead of state", x.tells(0, GREATEST), -6);
        due("6 not free", x.tells(0, 6), -3);
        due("6 another", x.tells(2, 6), 0);
        due("6 as it was", x.person(0, 0), 5);
        x.changes(0, 7);
        due("6 a new variable is free", x.tells(0, 8), 7);
    }

    private static void changes() {
        GuardOfSums x = Guards.tens();
        due("7 nobody", x.changes(8, 100), -1);
        due("7 below", x.changes(0, -1), -4);
        due("7 above", x.changes(0, 100), -6);
        due("7 first", x.changes(0, 99), 8);
        due("7 second", x.changes(0, 0), 9);
        due("7 below goes ahead of no room", x.changes(0, -1), -4);
        due("7 no room", x.changes(1, 50), -6);
        due("7 stays", x.person(1, 1), 1);
        due("7 nobody has it any more", x.variable(8, 0), 99);
        due("7 value", x.person(0, 0), 0);
        due("7 all", x.count(5), 350);
        due("7 a sum counts the new one", x.ask(0, 3, 0), 20);
    }

    private static void bounds() {
        GuardOfSums x = Guards.tens();
        due("8 just", x.bounds(0, 10, 10), 1);
        due("8 low", x.variable(0, 1), 10);
        due("8 high", x.variable(0, 2), 10);
        due("8 wide", x.bounds(0, 0, 99), 1);
        due("8 nobody", x.bounds(8, -1, 0), -1);
        due("8 below", x.bounds(0, -1, 100), -4);
        due("8 below", x.bounds(0, 100, -1), -4);
        due("8 above", x.bounds(0, 100, 99), -6);
        due("8 above", x.bounds(0, 50, 100), -6);
        due("8 above it", x.bounds(0, 11, 99), -3);
        due("8 below it", x.bounds(0, 0, 9), -3);
        due("8 low above high", x.bounds(0, 12, 8), -3);
        due("8 nothing changed", x.variable(0, 2), 99);
        x.ask(0, 3, 0);
        due("8 in the ledger, too", x.bounds(0, 10, 20), 1);
        x.changes(0, 1);
        due("8 what nobody has, too", x.bounds(0, 10, 19), 1);
        due("8 the new one", x.bounds(8, 0, 2), 1);
    }

    private static void ruleAndLimit() {
        GuardOfSums x = new GuardOfSums();
        due("9 old", x.rule(3), 0);
        due("9 old", x.rule(0), 3);
        due("9 other", x.rule(4), -2);
        due("9 other", x.rule(-1), -2);
        due("9 other", x.rule(LEAST), -2);
        due("9 stays", x.count(2), 0);
        due("10 old", x.limit(0), 4);
        due("10 old", x.limit(10), 0);
        due("10 below", x.limit(-1), -4);
        due("10 above", x.limit(11), -6);
        due("10 above", x.limit(GREATEST), -6);
        due("10 stays", x.count(3), 10);
    }

    private static void ask() {
        GuardOfSums x = Guards.tens();
        due("11 sum", x.ask(0, 7, GREATEST), 60);
        due("11 difference", x.ask(1, 8, 48), -70);
        due("11 weighed by 1", x.ask(2, 192, 1), 150);
        due("11 rank", x.count(0), 3);
        due("11 spanned", x.ask(0, 7, LEAST), 60);
        due("11 spanned joins not", x.count(0), 3);
        due("11 would fix", x.ask(0, 6, 0), 1000000005);
        due("11 kind", x.ask(3, 0, 0), 1000000002);
        due("11 kind", x.ask(-1, 0, 0), 1000000002);
        due("11 below", x.ask(0, 0, 0), 1000000004);
        due("11 above", x.ask(0, 256, 0), 1000000006);
        due("11 below goes ahead", x.ask(1, 256, 0), 1000000004);
        due("11 below goes ahead", x.ask(2, 0, 4), 1000000004);
        due("11 above", x.ask(1, 1, 256), 1000000006);
        due("11 above", x.ask(2, 1, 4), 1000000006);
        due("11 above goes ahead", x.ask(1, 257, 1), 1000000006);
        due("11 in both", x.ask(1, 3, 2), 1000000003);
        due("11 below", x.ask(2, 1, LEAST), 1000000004);
        due("11 rank", x.count(0), 3);
        GuardOfSums y = Guards.tens();
        due("11 weighed by 2", y.ask(2, 255, 2), 10 + 40 + 30 + 80 + 50 + 120 + 70 + 160);
        due("11 weighed by 3", y.ask(2, 255, 3), 10 + 40 + 90 + 40 + 100 + 180 + 70 + 160);
        due("11 negative is told as it is", y.ask(1, 1, 192), -140);
        GuardOfSums z = Guards.tens();
        due("11 one alone", z.ask(0, 1, 0), 1000000005);
        due("11 one alone, weighed", z.ask(2, 128, 3), 1000000005);
        due("11 two", z.ask(0, 3, 0), 30);
        due("11 their difference would fix both", z.ask(1, 1, 2), 1000000005);
    }

    private static void spannedByEveryRule() {
        GuardOfSums x = Guards.tens();
        x.ask(0, 3, 0);
        x.ask(0, 12, 0);
        x.ask(0, 240, 0);
        x.limit(0);
        for (int rule = 0; rule < 4; rule++) {
            x.rule(rule);
            due("11 all, by rule " + rule, x.ask(0, 255, 0), 360);
            due("12 all, by rule " + rule, x.would(0, 255, 0), 0);
        }
        due("11 a difference of sums", x.ask(1, 3, 12), -40);
    }

    private static void would() {
        GuardOfSums x = Guards.tens();
        due("12 joins", x.would(0, 3, 0), 1);
        due("12 is not asked", x.count(0), 0);
        due("12 refused", x.would(0, 1, 0), 2);
        due("12 is not counted", x.count(15), 0);
        x.ask(0, 3, 0);
        due("12 spanned", x.would(0, 3, 0), 0);
        due("12 spanned twice", x.would(2, 3, 1), 0);
        due("12 refused", x.would(2, 3, 3), 2);
        due("12 kind", x.would(3, 0, 0), -2);
        due("12 below", x.would(0, 0, 0), -4);
        due("12 below", x.would(1, 1, 0), -4);
        due("12 above", x.would(2, 1, 4), -6);
        due("12 above", x.would(0, GREATEST, 0), -6);
        due("12 both", x.would(1, 255, 255), -3);
    }

    private static void rules() {
        GuardOfSums x = Guards.tens();
        x.rule(1);
        due("12 six", x.would(0, 63, 0), 1);
        due("12 seven", x.would(0, 127, 0), 2);
        due("12 seven in a and b", x.would(1, 15, 112), 2);
        due("12 six in a and b", x.would(1, 7, 112), 1);
        due("12 two", x.would(0, 3, 0), 1);
        x.rule(2);
        due("12 two are a pair", x.would(0, 3, 0), 2);
        due("12 three are none", x.would(0, 7, 0), 1);
        x.ask(0, 7, 0);
        due("12 three and three, two the same", x.would(0, 14, 0), 2);
        due("12 three and three, one the same", x.would(0, 28, 0), 1);
        due("12 the other two are a pair", x.would(0, 31, 0), 2);
        due("12 1 2 3 less 1 1 1 is a pair", x.would(2, 7, 3), 2);
        due("12 1 2 3 1 less 1 1 1 0 is none", x.would(2, 15, 3), 1);
        due("12 all others", x.would(0, 248, 0), 1);
        x.rule(0);
        x.ask(0, 192, 0);
        x.rule(2);
        due("12 a pair that was there first", x.would(0, 56, 0), 2);
        due("12 spanned", x.would(0, 199, 0), 0);
        GuardOfSums y = Guards.tens();
        y.rule(3);
        y.limit(2);
        due("12 first", y.ask(0, 3, 0), 30);
        due("12 second", y.ask(0, 12, 0), 70);
        due("12 third", y.ask(0, 48, 0), 1000000005);
        y.limit(3);
        due("12 third", y.ask(0, 48, 0), 110);
        due("12 exact, too", y.would(0, 64, 0), 2);
        y.limit(0);
        due("12 above the limit", y.would(0, 192, 0), 2);
    }

    private static void sums() {
        GuardOfSums x = new GuardOfSums();
        due("13 least", x.sums(0), 3);
        due("13 join", x.sums(1), 247);
        due("13 refused", x.sums(2), 8);
        due("13 spanned", x.sums(3), 0);
        x.ask(0, 3, 0);
        // refused: with none or all of 0, 1 one other at most; and one of 0, 1 alone
        due("13 least", x.sums(0), 5);
        due("13 spanned", x.sums(3), 1);
        due("13 refused", x.sums(2), 6 + 6 + 2);
        due("13 join", x.sums(1), 255 - 14 - 1);
        x.rule(3);
        x.limit(1);
        due("13 none joins", x.sums(0), -9);
        due("13 none joins", x.sums(1), 0);
        due("13 all but one are refused", x.sums(2), 254);
        due("13 other", x.sums(4), -2);
        due("13 other", x.sums(-1), -2);
    }

    private static void ledgerAndAnswer() {
        GuardOfSums x = Guards.tens();
        due("14 none", x.ledger(0, 0), -1);
        due("15 none", x.answer(0), LONG_NOBODY);
        x.ask(2, 7, 3);
        x.changes(0, 3);
        x.ask(1, 8, 1);
        due("14 1", x.ledger(0, 0), 101);
        due("14 3", x.ledger(0, 2), 103);
        due("14 0", x.ledger(0, 3), 100);
        due("14 later variable", x.ledger(0, 8), 100);
        due("14 less", x.ledger(1, 8), 99);
        due("14 not the old one", x.ledger(1, 0), 100);
        due("15 first", x.answer(0), 140);
        due("15 second", x.answer(1), 37);
        due("15 no such", x.answer(2), LONG_NOBODY);
        due("15 no such", x.answer(-1), LONG_NOBODY);
        due("15 no such", x.answer(LEAST), LONG_NOBODY);
        due("14 no such row", x.ledger(2, 0), -1);
        due("14 no such row", x.ledger(-1, 0), -1);
        due("14 no such variable", x.ledger(0, 9), -1);
        due("14 no such variable", x.ledger(0, -1), -1);
    }

    private static void fractionDue(GuardOfSums x, int i, int variable, long above, long below) {
        due("16 above in " + i + ", " + variable, x.reduced(i, variable, 0), above);
        due("16 below in " + i + ", " + variable, x.reduced(i, variable, 1), below);
    }

    private static void reduced() {
        GuardOfSums x = Guards.tens();
        due("17 none", x.pivots(), 0);
        x.ask(2, 14, 3);
        // 0 2 3 1: 1 at the pivot
        fractionDue(x, 0, 1, 1, 1);
        fractionDue(x, 0, 2, 3, 2);
        fractionDue(x, 0, 3, 1, 2);
        fractionDue(x, 0, 0, 0, 1);
        due("17 one", x.pivots(), 2);
        x.ask(1, 3, 20);
        // 1 1 -1 0 -1: row 0 is 1 0 -5/2 -1/2 -1
        due("17 two", x.pivots(), 3);
        fractionDue(x, 0, 0, 1, 1);
        fractionDue(x, 0, 1, 0, 1);
        fractionDue(x, 0, 2, -5, 2);
        fractionDue(x, 0, 3, -1, 2);
        fractionDue(x, 0, 4, -1, 1);
        fractionDue(x, 0, 5, 0, 1);
        fractionDue(x, 1, 0, 0, 1);
        fractionDue(x, 1, 1, 1, 1);
        fractionDue(x, 1, 2, 3, 2);
        due("16 no such row", x.reduced(2, 0, 0), LONG_NOBODY);
        due("16 no such row", x.reduced(-1, 0, 0), LONG_NOBODY);
        due("16 no such variable", x.reduced(0, 8, 5), LONG_NOBODY);
        due("16 other", x.reduced(0, 0, 2), LONG_OTHER);
        due("16 other", x.reduced(0, 0, -1), LONG_OTHER);
    }

    private static void reducedOverOldVariables() {
        GuardOfSums x = Guards.tens();
        x.ask(0, 192, 0);
        x.changes(7, 1);
        x.ask(0, 192, 0);
        // v6 + v7 and v6 + v8
        due("17 pivots", x.pivots(), 192);
        fractionDue(x, 0, 8, 1, 1);
        fractionDue(x, 1, 7, 1, 1);
        fractionDue(x, 1, 8, -1, 1);
        due("16 a later variable", x.reduced(1, 9, 0), LONG_NOBODY);
    }

    private static void attack() {
        GuardOfSums x = Guards.tens();
        due("18 alone", x.attack(5, 0), 32);
        due("18 just that", x.attack(5, 1), 1);
        x.ask(0, 3, 0);
        due("18 either", x.attack(0, 0), 1);
        due("18 either or the other", x.attack(0, 1), 2);
        due("18 with the two or without", x.attack(2, 0), 4);
        due("18 with the two or without", x.attack(2, 1), 2);
        x.changes(0, 5);
        due("18 what nobody has", x.attack(0, 0), 2);
        due("18 what nobody has", x.attack(0, 1), 1);
        x.changes(1, 5);
        due("18 none", x.attack(0, 0), -9);
        due("18 none", x.attack(0, 1), 0);
        x.rule(3);
        x.limit(0);
        due("18 whatever the rule", x.attack(2, 0), 4);
        due("18 nobody", x.attack(10, 2), -1);
        due("18 nobody", x.attack(-1, 0), -1);
        due("18 other", x.attack(0, 2), -2);
        due("18 other", x.attack(0, -1), -2);
    }

    private static void known() {
        GuardOfSums x = new GuardOfSums();
        due("19 none", x.known(), 0);
        x.bounds(4, 0, 0);
        due("19 by bounds alone", x.known(), 16);
        x.ask(0, 3, 0);
        due("19 nothing together", x.known(), 19);
        GuardOfSums y = new GuardOfSums();
        y.tells(0, 99);
        y.tells(1, 99);
        y.ask(0, 3, 0);
        due("19 all there can be", y.known(), 3);
        GuardOfSums z = new GuardOfSums();
        z.tells(0, 99);
        z.tells(1, 2);
        z.ask(2, 3, 2);
        // v0 + 2 v1 = 103: v1 is between 2 and 51, v0 between 1 and 99
        due("5 least", z.variable(1, 3), 2);
        due("5 most", z.variable(1, 4), 51);
        due("5 least", z.variable(0, 3), 1);
        due("5 most", z.variable(0, 4), 99);
        z.bounds(1, 0, 50);
        due("5 from low and high on", z.variable(0, 3), 3);
        GuardOfSums d = new GuardOfSums();
        d.tells(0, 99);
        d.ask(1, 1, 2);
        due("19 by a difference", d.known(), 3);
    }

    /** Narrowing that is still going on in its 60th round; then one that tells whether each end counts at once. */
    private static void narrowedByRounds() {
        narrowedSlowly(new int[] {98, 2, 0, 95, 1, 72, 0, 0},
            new int[] {3, 2, 0, 1, 1, 29, 0, 0}, new int[] {99, 99, 99, 95, 99, 99, 99, 99});
        narrowedSlowly(new int[] {98, 2, 32, 95, 1, 72, 0, 0},
            new int[] {3, 2, 0, 1, 1, 29, 0, 0}, new int[] {99, 99, 99, 95, 99, 99, 99, 20});
    }

    private static void narrowedSlowly(int[] values, int[] lows, int[] highs) {
        GuardOfSums x = new GuardOfSums();
        SlowGuard y = new SlowGuard();
        for (int person = 0; person < 8; person++) {
            due("6 tells", x.tells(person, values[person]), y.tells(person, values[person]));
            due("8 bounds", x.bounds(person, lows[person], highs[person]),
                y.bounds(person, lows[person], highs[person]));
        }
        int[][] asked = {{2, 109, 2}, {0, 15, 79}, {2, 45, 3}, {2, 48, 2}, {2, 81, 3}, {1, 16, 129}, {2, 153, 3}};
        for (int[] q : asked) {
            due("11 ask", x.ask(q[0], q[1], q[2]), y.ask(q[0], q[1], q[2]));
            for (int v = 0; v < 8; v++) {
                due("5 least", x.variable(v, 3), y.variable(v, 3));
                due("5 most", x.variable(v, 4), y.variable(v, 4));
            }
        }
        due("24 mean", x.mean(0), y.mean(0));
        due("19 known", x.known(), y.known());
    }

    private static void learns() {
        GuardOfSums x = Guards.tens();
        x.tells(0, 99);
        x.tells(1, 98);
        due("20 width", x.learns(0, 3, 0, 0), 2);
        due("20 first", x.learns(0, 3, 0, 1), 0);
        due("20 known", x.learns(0, 3, 0, 2), 0);
        due("20 whatever the rule: width", x.learns(0, 8, 0, 0), 1);
        due("20 whatever the rule: first", x.learns(0, 8, 0, 1), 3);
        due("20 whatever the rule: known", x.learns(0, 8, 0, 2), 1);
        due("20 in mind alone", x.count(0), 0);
        x.ask(0, 3, 0);
        due("20 both by their difference", x.learns(1, 1, 2, 2), 2);
        due("20 spanned", x.learns(0, 3, 0, 0), 2);
        due("20 kind", x.learns(3, 0, 0, 9), -2);
        due("20 below", x.learns(0, 0, 0, 9), -4);
        due("20 above", x.learns(2, 1, 4, 9), -6);
        due("20 both", x.learns(1, 1, 1, 9), -3);
        due("20 other", x.learns(0, 3, 0, 3), -2);
        due("20 other", x.learns(0, 3, 0, -1), -2);
        due("20 -3 counted", x.count(13), 1);
        due("20 -2 counted", x.count(12), 3);
    }

    private static void order() {
        GuardOfSums x = Guards.tens();
        due("21 all join", x.order(3, 12, 48, 0), 12);
        due("21 all join", x.order(3, 12, 48, 1), 3);
        due("21 in mind alone", x.count(0), 0);
        due("21 the first of the best", x.order(1, 2, 4, 0), 12);
        due("21 none", x.order(1, 2, 4, 1), 0);
        due("21 the same twice", x.order(3, 3, 3, 1), 1);
        // 7 goes with neither, 3 and 6 go together
        due("21 7 not first", x.order(7, 3, 6, 0), 102);
        due("21 two join", x.order(7, 3, 6, 1), 2);
        due("21 the first of several", x.order(3, 7, 6, 0), 12);
        due("21 nothing else to gain", x.order(3, 6, 7, 1), 2);
        due("21 below", x.order(1, 1, 0, 2), -4);
        due("21 below goes ahead", x.order(256, 0, 1, 0), -4);
        due("21 above", x.order(1, 1, 256, 2), -6);
        due("21 above", x.order(1, GREATEST, 1, 0), -6);
        due("21 other", x.order(1, 1, 1, 2), -2);
        due("21 other", x.order(1, 1, 1, -1), -2);
    }

    private static void two() {
        GuardOfSums x = Guards.tens();
        due("22 both join", x.two(3, 12), 11);
        due("22 the other is refused", x.two(3, 1), 10);
        due("22 the other would fix", x.two(3, 7), 10);
        due("22 the one is refused", x.two(1, 3), 1);
        due("22 neither", x.two(1, 2), 0);
        due("22 the same is spanned", x.two(3, 3), 11);
        due("22 in mind alone", x.count(0), 0);
        x.ask(0, 3, 0);
        due("22 spanned is better than not", x.two(3, 3), 11);
        due("22 below", x.two(0, 256), -4);
        due("22 below", x.two(256, -5), -4);
        due("22 above", x.two(255, 256), -6);
        due("22 above", x.two(GREATEST, 1), -6);
    }

    private static void cheapest() {
        GuardOfSums x = Guards.tens();
        due("23 two", x.cheapest(0), 3);
        due("23 two", x.cheapest(1), 2);
        x.rule(2);
        due("23 three", x.cheapest(0), 7);
        due("23 three", x.cheapest(1), 3);
        x.rule(3);
        x.limit(0);
        due("23 none", x.cheapest(0), -9);
        due("23 none", x.cheapest(1), -9);
        due("23 other", x.cheapest(2), -2);
        due("23 other", x.cheapest(-1), -2);
        x.rule(0);
        // 3, 5 and 6 would fix 4, 5 and 6, but 7 joins
        x.ask(1, 3, 16);
        x.ask(1, 5, 32);
        x.ask(1, 6, 64);
        due("23 least a", x.sums(0), 7);
        due("23 least size goes ahead of least a", x.cheapest(0), 9);
        due("23 least size", x.cheapest(1), 2);
    }

    private static void mean() {
        GuardOfSums x = new GuardOfSums();
        due("24 whole", x.mean(0), 100);
        due("24 by one", x.mean(1), 1);
        x.bounds(0, 0, 0);
        // 701 by 8
        due("24 above", x.mean(0), 701);
        due("24 below", x.mean(1), 8);
        x.bounds(1, 0, 2);
        // 604 by 8
        due("24 in least terms", x.mean(0), 151);
        due("24 in least terms", x.mean(1), 2);
        x.changes(0, 5);
        // what nobody has stays in it
        due("24 old ones stay", x.mean(0), 704);
        due("24 old ones stay", x.mean(1), 9);
        due("24 other", x.mean(2), LONG_OTHER);
        due("24 other", x.mean(-1), LONG_OTHER);
    }

    private static void share() {
        GuardOfSums x = new GuardOfSums();
        due("25 above", x.share(0), 247);
        due("25 below", x.share(1), 255);
        x.rule(3);
        x.limit(0);
        due("25 nothing", x.share(0), 0);
        due("25 by one", x.share(1), 1);
        x.rule(0);
        x.ask(0, 3, 0);
        // 14 are refused
        due("25 spanned counts", x.share(0), 241);
        x.rule(3);
        due("25 least terms", x.share(0), 1);
        due("25 least terms", x.share(1), 255);
        due("25 other", x.share(2), LONG_OTHER);
        due("25 other", x.share(LEAST), LONG_OTHER);
    }

    private static void which() {
        GuardOfSums x = Guards.tens();
        due("26 of none all", x.which(0), 15);
        due("26 of none all", x.which(1), 2047);
        Guards.rowOf(x, 3, 1);
        due("26 joins but by pairs", x.which(0), 11);
        due("26 limit is no matter", x.which(1), 2047);
        Guards.rowOf(x, 127, 2);
        due("26 too many", x.which(0), 2);
        due("26 by no limit", x.which(1), 0);
        due("26 it stays", x.count(6), 2);
        Guards.rowOf(x, 127, 2, 3, 1);
        due("26 both", x.which(0), 2);
        Guards.rowOf(x, 127, 2, 3, 2);
        due("26 none", x.which(0), 0);
        x.ask(0, 3, 0);
        x.ask(0, 12, 0);
        x.rule(3);
        Guards.rowOf(x, 48, 1);
        due("26 limits above 2", x.which(1), 2047 - 7);
        Guards.rowOf(x, 48, 2);
        due("26 limits to 2", x.which(1), 7);
        Guards.rowOf(x, 15, 0);
        due("26 spanned by all", x.which(0), 15);
        Guards.rowOf(x, 15, 3);
        due("26 above 2", x.which(0), 0);
        due("26 above 2", x.which(1), 0);
        Guards.rowOf(x, 15);
        due("26 unwhole", x.which(0), -3);
        due("26 other goes ahead", x.which(2), -2);
        Guards.rowOf(x, 15, 0, 0, 1);
        due("26 a is 0", x.which(1), -3);
        due("26 other", x.which(-1), -2);
        due("26 it stays", x.count(6), 4);
    }

    private static void row() {
        GuardOfSums x = new GuardOfSums();
        due("27 below", x.row(-1), -4);
        due("27 above", x.row(256), -6);
        for (int i = 1; i <= 32; i++) {
            due("27 row", x.row(i == 1 ? 255 : 0), i);
        }
        due("27 no room", x.row(1), -6);
        due("27 below goes ahead", x.row(LEAST), -4);
        due("27 count", x.count(6), 32);
    }

    private static void judge() {
        GuardOfSums x = Guards.tens();
        due("28 no rows", x.judge(), -9);
        x.ask(0, 3, 0);
        x.ask(0, 12, 0);
        Guards.rowOf(x, 10, 20, 30, 40);
        due("28 so", x.judge(), -9);
        due("28 has none then", x.count(6), 0);
        Guards.rowOf(x, 20, 10);
        due("28 so as well", x.judge(), -9);
        Guards.rowOf(x, 20, 20, 0);
        due("28 the first", x.judge(), 0);
        due("28 has none then", x.count(6), 0);
        Guards.rowOf(x, 10, 20, 31);
        due("28 the second", x.judge(), 1);
        Guards.rowOf(x, 10, 20, 30, 40, 255, 255, 255, 255, 255, 255, 255, 255);
        due("28 more is no matter", x.judge(), -9);
        x.changes(0, 5);
        Guards.rowOf(x, 10, 20, 30, 40, 0, 0, 0, 0, 77);
        due("28 by variables", x.judge(), -9);
    }

    private static void clear() {
        GuardOfSums x = new GuardOfSums();
        due("29 none", x.clear(), 0);
        x.row(1);
        x.row(2);
        due("29 two", x.clear(), 2);
        due("29 none", x.clear(), 0);
    }

    private static void lots() {
        GuardOfSums x = Guards.tens();
        x.rule(3);
        x.limit(0);
        due("30 none joins", x.lots(20, 5, 0), 0);
        due("30 all are refused", x.lots(20, 5, 1), 160);
        x.limit(1);
        due("30 below", x.lots(0, 0, 2), -4);
        due("30 below", x.lots(LEAST, 0, 0), -4);
        due("30 above", x.lots(21, 0, 2), -6);
        due("30 other", x.lots(20, 0, 2), -2);
        due("30 other", x.lots(1, 0, -1), -2);
        due("30 in mind alone", x.count(0), 0);
        SlowGuard y = new SlowGuard();
        GuardOfSums z = new GuardOfSums();
        int[] seeds = {0, 1, -1, 12345, LEAST, GREATEST};
        for (int seed : seeds) {
            for (int n = 1; n < 5; n++) {
                due("30 join", z.lots(n, seed, 0), y.lots(n, seed, 0));
                due("30 refused", z.lots(n, seed, 1), y.lots(n, seed, 1));
            }
        }
    }

    private static void image() {
        GuardOfSums x = Guards.tens();
        due("32 none", x.on(), -3);
        x.rule(1);
        x.limit(7);
        x.bounds(0, 5, 15);
        x.ask(0, 3, 0);
        x.changes(2, 66);
        due("31 rank", x.image(), 1);
        Guards.spell(x, "r0;");
        x.row(9);
        x.rule(0);
        x.limit(0);
        x.bounds(0, 0, 99);
        x.ask(0, 12, 0);
        x.ask(0, 48, 0);
        x.tells(7, 1);
        x.changes(3, 5);
        due("32 on", x.on(), 1);
        due("32 rank", x.count(0), 1);
        due("32 variables", x.count(1), 9);
        due("32 rule", x.count(2), 1);
        due("32 limit", x.count(3), 7);
        due("32 bounds", x.variable(0, 1), 5);
        due("32 value", x.person(7, 0), 80);
        due("32 variable", x.person(3, 1), 3);
        due("32 pivots", x.pivots(), 1);
        due("32 the row is not in it", x.count(6), 1);
        due("32 letters are not in it", x.count(7), 3);
        due("32 refusals are not in it", x.count(13), 1);
        x.ask(0, 12, 0);
        due("32 again", x.on(), 1);
        due("32 the space, too", x.would(0, 8, 0), 2);
        due("32 the space, too", x.would(0, 12, 0), 1);
        x.ask(0, 12, 0);
        due("31 another", x.image(), 2);
        due("32 another", x.on(), 2);
    }

    private static void count() {
        GuardOfSums x = Guards.tens();
        x.ask(0, 129, 0);
        x.changes(0, 9);
        Guards.spell(x, "ab");
        x.row(4);
        int[] want = {1, 9, 0, 4, 129, 359, 1, 2};
        for (int what = 0; what < 8; what++) {
            due("33 count " + what, x.count(what), want[what]);
        }
        int[] others = {-1, 8, 9, 10, 17, LEAST, GREATEST};
        for (int what : others) {
            due("33 other", x.count(what), -9);
        }
        due("33 other is no refusal", x.count(12), 0);
    }

    private static void refusalsAreCounted() {
        GuardOfSums x = new GuardOfSums();
        x.person(8, 0);
        x.answer(0);
        x.reduced(0, 0, 0);
        x.ledger(0, 0);
        due("33 -1", x.count(11), 4);
        x.rule(9);
        x.ask(7, 1, 1);
        x.mean(5);
        x.share(5);
        x.sums(9);
        due("33 -2", x.count(12), 5);
        x.on();
        x.bounds(0, 1, 5);
        due("33 -3", x.count(13), 2);
        x.limit(-1);
        x.lots(0, 0, 0);
        x.two(0, 0);
        due("33 -4", x.count(14), 3);
        x.ask(0, 1, 0);
        x.ask(0, 2, 0);
        x.would(0, 1, 0);
        due("33 -5", x.count(15), 2);
        x.limit(11);
        due("33 -6", x.count(16), 1);
        x.image();
        x.on();
        due("33 an image keeps no refusals", x.count(15), 2);
    }
}
