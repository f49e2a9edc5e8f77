/** Counts the answers that are not the ones that are due, and tells each of them. */
final class Check {
    private static final int MOST_TOLD = 40;

    private final String test;
    private String sentence = "";
    private int asked;
    private int wrong;

    Check(String test) {
        this.test = test;
    }

    /** Names the sentence of the document that the next answers belong to; QuotesTest looks it up there. */
    void sentence(String section, String words) {
        sentence = section + ", \"" + words + "\": ";
    }

    void due(String call, long got, long want) {
        asked++;
        if (got == want) return;
        wrong++;
        if (wrong <= MOST_TOLD) System.out.println(test + ": " + sentence + call + " answered " + got + ", due is " + want);
    }

    void that(String what, boolean holds) {
        due(what, holds ? 1 : 0, 1);
    }

    boolean isAllRight() {
        return wrong == 0;
    }

    void finish() {
        System.out.println(test + ": " + asked + " answers, " + wrong + " wrong");
        if (wrong != 0 || asked == 0) System.exit(1);
    }
}
