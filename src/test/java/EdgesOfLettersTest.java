/**
 * A GUARD told in letters: each sentence that names a boundary case, with answers worked out by
 * hand. Places begin with 0.
 */
public final class EdgesOfLettersTest {
    private static final Due DUE = new Due();
    /** One STATEMENT of each letter; all of them stand on a new object. */
    private static final String[] FORMS = {"v799;", "c700;", "b070099;", "r3;", "l10;", "s11111111;",
        "d11222222;", "w111111113;"};

    public static void main(String[] args) {
        letterFromNoughtTo255();
        roomFor96();
        guardOf96();
        atLeastOneStatement();
        endIfSomethingLacks();
        firstLetterThatFitsNot();
        semicolonBehindEach();
        digitsAlone();
        smallLettersAlone();
        formGoesAhead();
        oneOfPeople();
        valueOfTwoDigits();
        boundsBySixDigits();
        noSuchVariable();
        lowAboveHigh();
        valueNotBetween();
        ruleDigit();
        limitDigits();
        nobodyInA();
        nobodyInB();
        digitAboveTwo();
        anyDigitThatIsNotNought();
        weighedDigit();
        toldThoughInTheLedger();
        noVariableLeft();
        askedAndRefused();
        askedAndSpanned();
        behindAllAhead();
        firstStatementOfSeveral();
        statementsInOrder();
        withoutFaultAll();
        withOneNothing();
        lettersAreNoMore();
        nothingIsCounted();
        DUE.close("EdgesOfLettersTest");
    }

    private static void sentence(String words) {
        DUE.sentence(words);
    }

    private static void due(String call, long got, long want) {
        DUE.is(call, got, want);
    }

    private static void guard(String text, int want) {
        due("guard " + text, Guards.guardOf(new GuardOfSums(), text), want);
    }

    private static void guard(GuardOfSums x, String text, int want) {
        due("guard " + text, Guards.guardOf(x, text), want);
    }

    private static void letterFromNoughtTo255() {
        sentence("A letter (0 .. 255) comes: how many there are. -4; -6 (255; 96, too)");
        GuardOfSums x = new GuardOfSums();
        due("least", x.letter(0), 1);
        due("greatest", x.letter(255), 2);
        due("below", x.letter(-1), -4);
        due("beyond", x.letter(256), -6);
        due("far below", x.letter(Guards.LEAST), -4);
        due("far beyond", x.letter(Guards.GREATEST), -6);
        due("how many", x.count(7), 2);
    }

    private static void roomFor96() {
        sentence("told in letters, one by one (96 at most)");
        GuardOfSums x = new GuardOfSums();
        for (int i = 1; i <= 96; i++) {
            due("letter", x.letter('r'), i);
        }
        due("no room", x.letter('r'), -6);
        due("beyond, no room", x.letter(256), -6);
        due("below goes ahead", x.letter(-1), -4);
        due("how many", x.count(7), 96);
        x.guard();
        due("room again", x.letter('r'), 1);
    }

    private static void guardOf96() {
        sentence("96 at most: all of them are read");
        GuardOfSums x = new GuardOfSums();
        StringBuilder text = new StringBuilder();
        for (int i = 0; i < 31; i++) {
            text.append("r1;");
        }
        due("96", Guards.spell(x, text + "r2;"), 96);
        due("the 97th comes not", x.letter('x'), -6);
        due("guard", x.guard(), 32);
        due("the last STATEMENT", x.count(2), 2);
        guard(text + "r2x", -1095);
        guard(text + "r2", -1095);
        guard(text + "r4;", -2093);
        guard(text + "s11", -1096);
    }

    private static void atLeastOneStatement() {
        sentence("At least one STATEMENT");
        guard("", -1000);
        guard(";", -1000);
        guard("r0;", 1);
        GuardOfSums x = Guards.tens();
        due("behind a guard, too", x.guard(), -1000);
        due("as before", x.person(0, 0), 10);
    }

    private static void endIfSomethingLacks() {
        sentence("kind 1 the place of the first letter with which no GUARD can go on (the end, if something lacks)");
        for (String form : FORMS) {
            for (int length = 1; length < form.length(); length++) {
                guard(form.substring(0, length), -1000 - length);
                guard("r0;" + form.substring(0, length), -1003 - length);
            }
            guard(form, 1);
            guard("r0;" + form, 2);
        }
    }

    private static void firstLetterThatFitsNot() {
        sentence("kind 1 the place of the first letter with which no GUARD can go on");
        for (String form : FORMS) {
            for (int place = 0; place < form.length(); place++) {
                String ahead = form.substring(0, place);
                guard(ahead + 'x' + form.substring(place + 1), -1000 - place);
                guard(ahead + (char) 0 + form.substring(place + 1), -1000 - place);
                guard(ahead + (char) 255 + "x" + form.substring(place), -1000 - place);
            }
        }
        guard("r1;xx", -1003);
        guard("r1;x", -1003);
    }

    private static void semicolonBehindEach() {
        sentence("STATEMENTS, each with \";\" behind");
        for (String form : FORMS) {
            int last = form.length() - 1;
            guard(form.substring(0, last) + ":", -1000 - last);
            guard(form.substring(0, last) + "<", -1000 - last);
            guard(form.substring(0, last) + "0;", -1000 - last);
            guard(form.substring(0, last - 1) + ";", -999 - last);
            guard(form.substring(0, last) + "r1;", -1000 - last);
            guard(form + ";", -1001 - last);
            guard(";" + form, -1000);
        }
    }

    private static void digitsAlone() {
        sentence("a digit: 0 .. 9 and no other sign");
        for (String form : FORMS) {
            for (int place = 1; place < form.length() - 1; place++) {
                String ahead = form.substring(0, place);
                String behind = form.substring(place + 1);
                guard(ahead + '/' + behind, -1000 - place);
                guard(ahead + ':' + behind, -1000 - place);
                guard(ahead + '-' + behind, -1000 - place);
                guard(ahead + ' ' + behind, -1000 - place);
            }
        }
        guard("v000;", 1);
        guard("v999;", -2000);
    }

    private static void smallLettersAlone() {
        sentence("\"v\", \"c\", \"b\", \"r\", \"l\", \"s\", \"d\", \"w\"");
        for (int c = 0; c < 256; c++) {
            boolean begins = "vcbrlsdw".indexOf(c) >= 0;
            guard(Character.toString((char) c), begins ? -1001 : -1000);
        }
    }

    private static void formGoesAhead() {
        sentence("kind 1 goes ahead of them wherever it is");
        guard("v800;", -2000);
        guard("v800;x", -1005);
        guard("v800;r", -1006);
        guard("v900;r1;s00000000;d33333333;l1", -1030);
        guard("r9;r8;r7x", -1008);
        guard("s00000000;;", -1010);
    }

    private static void oneOfPeople() {
        sentence("One of PEOPLE 8 or 9 is a FAULT of kind 2");
        guard("v000;", 1);
        guard("v700;", 1);
        guard("v800;", -2000);
        guard("v900;", -2000);
        guard("c000;", 1);
        guard("c700;", 1);
        guard("c800;", -2000);
        guard("c900;", -2000);
    }

    private static void valueOfTwoDigits() {
        sentence("VALUE (2 digits)");
        GuardOfSums x = new GuardOfSums();
        guard(x, "v000;v199;v209;v390;c400;c599;", 6);
        int[] want = {0, 99, 9, 90, 0, 99};
        for (int person = 0; person < 6; person++) {
            due("VALUE of " + person, x.person(person, 0), want[person]);
        }
        due("VARIABLE", x.person(4, 1), 8);
        due("VARIABLE", x.person(5, 1), 9);
    }

    private static void boundsBySixDigits() {
        sentence("BOUNDS are told by six digits");
        GuardOfSums x = Guards.of(12, 0, 0, 0, 0, 0, 0, 99);
        guard(x, "b000134;b079999;", 2);
        due("LOW", x.variable(0, 1), 1);
        due("HIGH", x.variable(0, 2), 34);
        due("LOW", x.variable(7, 1), 99);
        due("HIGH", x.variable(7, 2), 99);
        guard(x, "b001212;", 1);
        due("LOW", x.variable(0, 1), 12);
        due("HIGH", x.variable(0, 2), 12);
        guard(x, "b000099;", 1);
        due("LOW", x.variable(0, 1), 0);
        due("HIGH", x.variable(0, 2), 99);
        guard("b00099;", -1006);
        guard("b0000099;", -1007);
    }

    private static void noSuchVariable() {
        sentence("FAULT 2: no such VARIABLE");
        guard("b070000;", 1);
        guard("b080000;", -2000);
        guard("b100000;", -2000);
        guard("b990000;", -2000);
        guard("c000;b080000;", 2);
        guard("c000;b090000;", -2005);
        guard("c000;c000;b090000;", 3);
        guard("c000;c000;b100000;", -2010);
    }

    private static void lowAboveHigh() {
        sentence("FAULT 2: LOW above HIGH");
        GuardOfSums x = Guards.of(50);
        guard(x, "b005149;", -2000);
        guard(x, "b009900;", -2000);
        guard(x, "b005050;", 1);
    }

    private static void valueNotBetween() {
        sentence("FAULT 2: VALUE not between");
        GuardOfSums x = Guards.of(50);
        guard(x, "b005199;", -2000);
        guard(x, "b000049;", -2000);
        guard(x, "b005099;", 1);
        guard(x, "b000050;", 1);
    }

    private static void ruleDigit() {
        sentence("\"r\" a RULE (a digit): a number out of range is a FAULT 2");
        for (int rule = 0; rule < 10; rule++) {
            GuardOfSums x = new GuardOfSums();
            guard(x, "r" + rule + ";", rule < 4 ? 1 : -2000);
            due("RULE", x.count(2), rule < 4 ? rule : 0);
        }
    }

    private static void limitDigits() {
        sentence("\"l\" LIMIT (2 digits): a number out of range is a FAULT 2");
        for (int limit = 0; limit < 100; limit++) {
            GuardOfSums x = new GuardOfSums();
            guard(x, limit < 10 ? "l0" + limit + ";" : "l" + limit + ";", limit <= 10 ? 1 : -2000);
            due("LIMIT", x.count(3), limit <= 10 ? limit : 4);
        }
    }

    private static void nobodyInA() {
        sentence("FAULT 2: nobody in a");
        guard("s00000000;", -2000);
        guard("d00000000;", -2000);
        guard("d00000002;", -2000);
        guard("d22222222;", -2000);
        guard("w000000001;", -2000);
        guard("w000000003;", -2000);
    }

    private static void nobodyInB() {
        sentence("FAULT 2: nobody in b (\"d\")");
        guard("d10000000;", -2000);
        guard("d11111111;", -2000);
        guard("d11111112;", 1);
        guard("d22222221;", 1);
    }

    private static void digitAboveTwo() {
        sentence("FAULT 2: a digit above 2 (\"d\")");
        for (int person = 0; person < 8; person++) {
            for (int digit = 3; digit < 10; digit++) {
                StringBuilder digits = new StringBuilder(person < 4 ? "00000012" : "12000000");
                digits.setCharAt(person, (char) ('0' + digit));
                guard("d" + digits + ";", -2000);
            }
        }
        guard("d12000000;", 1);
    }

    private static void anyDigitThatIsNotNought() {
        sentence("a SUM of those of PEOPLE 0 .. 7 whose digit is not 0 is asked");
        GuardOfSums x = Guards.tens();
        guard(x, "s10000009;", 1);
        due("answer", x.answer(0), 90);
        due("one", x.ledger(0, 0), 101);
        due("one", x.ledger(0, 7), 101);
        guard(x, "s02345678;", 1);
        due("answer", x.answer(1), 350);
        GuardOfSums y = Guards.tens();
        guard(y, "w900000093;", 1);
        due("answer", y.answer(0), 170);
        due("WEIGHT by the number, not by the digit", y.ledger(0, 0), 101);
        due("WEIGHT by the number, not by the digit", y.ledger(0, 7), 102);
        GuardOfSums z = Guards.tens();
        guard(z, "d20000001;", 1);
        due("1 in a, 2 in b, 0 in neither", z.answer(0), 70);
        due("b", z.ledger(0, 0), 99);
        due("neither", z.ledger(0, 1), 100);
        due("a", z.ledger(0, 7), 101);
    }

    private static void weighedDigit() {
        sentence("FAULT 2: b 0 or above 3 (\"w\")");
        for (int b = 0; b < 10; b++) {
            guard("w11111111" + b + ";", b >= 1 && b <= 3 ? 1 : -2000);
        }
    }

    private static void toldThoughInTheLedger() {
        sentence("FAULT 2: TOLD, though its VARIABLE is in THE LEDGER");
        guard("s11000000;v001;", -2010);
        guard("d12000000;v101;", -2010);
        guard("s11000000;v201;", 2);
        guard("s11000000;c001;v002;", 3);
        GuardOfSums x = Guards.tens();
        x.ask(0, 3, 0);
        guard(x, "v010;", -2000);
        guard(x, "v230;", 1);
    }

    private static void noVariableLeft() {
        sentence("FAULT 2: no VARIABLE left");
        guard("c001;c001;", 2);
        guard("c001;c001;c001;", -2010);
        GuardOfSums x = new GuardOfSums();
        x.changes(0, 1);
        guard(x, "c001;", 1);
        guard(x, "c001;", -2000);
        due("ten", x.count(1), 10);
    }

    private static void askedAndRefused() {
        sentence("FAULT 2: asked and REFUSED");
        guard("s10000000;", -2000);
        guard("w100000003;", -2000);
        guard("s11000000;d12000000;", -2010);
        guard("r1;s11111110;", -2003);
        guard("r1;s11111100;", 2);
        guard("r2;d12000000;", -2003);
        guard("r3;l00;s11000000;", -2007);
        guard("r3;l01;s11000000;s00110000;", -2017);
        guard("r3;l02;s11000000;s00110000;", 4);
    }

    private static void askedAndSpanned() {
        sentence("a SPANNED one is answered: it is a STATEMENT like another");
        GuardOfSums x = Guards.tens();
        guard(x, "s11000000;s11000000;r2;s11000000;", 4);
        due("RANK", x.count(0), 1);
        guard(x, "s11000000;", 1);
    }

    private static void behindAllAhead() {
        sentence("that, behind all ahead of it in the text, is not as it must be");
        guard("v050;b005060;", 2);
        guard("b005060;v050;", -2000);
        guard("v050;b005050;v060;b006060;", 4);
        guard("v050;b005060;v070;b005060;", -2018);
        guard("c050;b085050;", 2);
        guard("b085050;c050;", -2000);
        guard("s11111110;r1;s11111110;", 3);
        guard("r1;s11111110;s11111110;", -2003);
        guard("s11000000;c105;s11000000;", 3);
    }

    private static void firstStatementOfSeveral() {
        sentence("the place of the first letter of the first STATEMENT that is not as it must be");
        guard("r4;l11;", -2000);
        guard("r0;l11;r4;", -2003);
        guard("r0;l10;r4;", -2007);
        guard("v000;c000;b000000;r0;l00;s11000000;d12000000;w110000002;", -2035);
    }

    private static void statementsInOrder() {
        sentence("STATEMENTS, one behind the other");
        GuardOfSums x = new GuardOfSums();
        guard(x, "v001;v002;r1;r2;l05;l06;s00001110;s11100000;", 8);
        due("the last VALUE", x.person(0, 0), 2);
        due("the last RULE", x.count(2), 2);
        due("the last LIMIT", x.count(3), 6);
        due("the first row", x.ledger(0, 4), 101);
        due("the second row", x.ledger(1, 0), 101);
        due("answer by what was told ahead of it", x.answer(1), 2);
    }

    private static void withoutFaultAll() {
        sentence("Without FAULT all of it comes");
        GuardOfSums x = new GuardOfSums();
        guard(x, "v011;v122;c233;b001020;r3;l07;s11000000;d00010020;w001010003;", 9);
        due("VALUE", x.person(0, 0), 11);
        due("VALUE", x.person(1, 0), 22);
        due("VARIABLE", x.person(2, 1), 8);
        due("VALUE", x.person(2, 0), 33);
        due("LOW", x.variable(0, 1), 10);
        due("HIGH", x.variable(0, 2), 20);
        due("RULE", x.count(2), 3);
        due("LIMIT", x.count(3), 7);
        due("RANK", x.count(0), 3);
        due("SUM", x.answer(0), 33);
        due("DIFFERENCE", x.answer(1), 0);
        due("WEIGHED", x.answer(2), 99);
        due("WEIGHT 3 of 2, which has VARIABLE 8", x.ledger(2, 8), 103);
        due("WEIGHT 2 of 4", x.ledger(2, 4), 102);
    }

    private static void withOneNothing() {
        sentence("with one nothing");
        String[] spoilt = {"v199;c299;b001010;r1;l09;s00111000;r4;", "v199;c299;b001010;r1;l09;s00111000;x",
            "v199;c299;b001010;r1;l09;s00111000;r"};
        int[] faults = {-2035, -1035, -1036};
        for (int i = 0; i < spoilt.length; i++) {
            GuardOfSums x = Guards.tens();
            x.ask(0, 192, 0);
            x.image();
            guard(x, spoilt[i], faults[i]);
            due("VALUE", x.person(1, 0), 20);
            due("VARIABLE", x.person(2, 1), 2);
            due("VARIABLES", x.count(1), 8);
            due("LOW", x.variable(0, 1), 0);
            due("HIGH", x.variable(0, 2), 99);
            due("RULE", x.count(2), 0);
            due("LIMIT", x.count(3), 4);
            due("RANK", x.count(0), 1);
            due("PIVOTS", x.pivots(), 64);
            due("what would be", x.would(0, 28, 0), 1);
            due("THE IMAGE", x.on(), 1);
        }
    }

    private static void lettersAreNoMore() {
        sentence("The letters become a GUARD, and are no more (with a FAULT neither)");
        String[] texts = {"r1;", "r9;", "x", "r"};
        for (String text : texts) {
            GuardOfSums x = new GuardOfSums();
            Guards.guardOf(x, text);
            due("letters behind " + text, x.count(7), 0);
            due("the next is the first", x.letter('r'), 1);
            due("another", Guards.guardOf(x, "2;"), 1);
            due("RULE", x.count(2), 2);
        }
    }

    private static void nothingIsCounted() {
        sentence("the FAULT (nothing is counted)");
        GuardOfSums x = Guards.tens();
        String[] texts = {"", "x", "v800;", "r4;", "l11;", "b000099;b109999;", "s00000000;", "s10000000;",
            "c001;c001;c001;", "s11000000;v001;", "b001111;", "d33333333;", "w111111110;"};
        for (String text : texts) {
            Guards.guardOf(x, text);
        }
        for (int what = 11; what <= 16; what++) {
            due("count(" + what + ")", x.count(what), 0);
        }
    }
}
