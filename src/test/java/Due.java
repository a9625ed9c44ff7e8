/** Counts the answers that are not as due. */
final class Due {
    private int wrong;
    private int looked;
    private String sentence = "";

    /** The sentence of the document that the next answers belong to. */
    void sentence(String words) {
        sentence = words + " | ";
    }

    void is(String call, long got, long want) {
        looked++;
        if (got != want) {
            wrong++;
            System.out.println(sentence + call + " answered " + got + ", due is " + want);
        }
    }

    void holds(String claim, boolean so) {
        is(claim, so ? 1 : 0, 1);
    }

    /** Ends the program with exit code 1 if an answer was wrong, or if none was looked at. */
    void close(String test) {
        System.out.println(test + ": " + looked + " answers, " + wrong + " not as due");
        if (wrong != 0 || looked == 0) {
            System.exit(1);
        }
    }
}
