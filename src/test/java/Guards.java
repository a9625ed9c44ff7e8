/** Guards in states that several tests begin with, and how they are told more. */
final class Guards {
    static final int LEAST = Integer.MIN_VALUE;
    static final int GREATEST = Integer.MAX_VALUE;
    static final long LONG_NOBODY = 4000000000000000001L;
    static final long LONG_OTHER = 4000000000000000002L;

    private Guards() {
    }

    /** The letters come; how many there are. */
    static int spell(GuardOfSums x, String text) {
        int there = x.count(7);
        for (int i = 0; i < text.length(); i++) {
            there = x.letter(text.charAt(i));
        }
        return there;
    }

    static int guardOf(GuardOfSums x, String text) {
        spell(x, text);
        return x.guard();
    }

    static void rowOf(GuardOfSums x, int... numbers) {
        x.clear();
        for (int number : numbers) {
            x.row(number);
        }
    }

    static GuardOfSums of(int... values) {
        GuardOfSums x = new GuardOfSums();
        for (int person = 0; person < values.length; person++) {
            x.tells(person, values[person]);
        }
        return x;
    }

    /** Values 10, 20, .. 80. */
    static GuardOfSums tens() {
        return of(10, 20, 30, 40, 50, 60, 70, 80);
    }

    /**
     * Values 10, 20, .. 80; RANK 8: all differences of VARIABLES 0 .. 8. Persons 7 and 6 have
     * VARIABLES 8 (VALUE 5) and 9 (VALUE 7, FREE).
     */
    static GuardOfSums nearlyFull() {
        GuardOfSums x = tens();
        for (int person = 0; person < 7; person++) {
            x.ask(1, 1 << person, 2 << person);
        }
        x.changes(7, 5);
        x.ask(1, 1, 128);
        x.changes(6, 7);
        return x;
    }

    /** As nearlyFull(), but RANK 9: all differences of VARIABLES 0 .. 9. */
    static GuardOfSums full() {
        GuardOfSums x = nearlyFull();
        x.ask(1, 1, 64);
        return x;
    }

    /** By PAIRED no SUM is SPANNED, and of all of them the one of everybody JOINS alone. */
    static GuardOfSums allButEverybodyRefused() {
        GuardOfSums x = new GuardOfSums();
        x.rule(2);
        x.ask(1, 179, 64);
        x.ask(0, 107, 0);
        x.changes(0, 0);
        x.ask(1, 72, 132);
        x.ask(1, 225, 2);
        x.ask(1, 73, 2);
        x.ask(1, 15, 144);
        return x;
    }
}
