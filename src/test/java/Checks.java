/** Counts the answers that are not as due and tells them. */
final class Checks {
    private final String test;
    private String sentence = "";
    private int made;
    private int wrong;

    Checks(String test) {
        this.test = test;
    }

    /** The sentence of the document that the next checks would see broken. */
    void about(String words) {
        sentence = " ['" + words + "']";
    }

    void due(String what, int got, int want) {
        made++;
        if (got != want) {
            wrong++;
            System.out.println(test + ": " + what + " answered " + got + ", due is " + want + sentence);
        }
    }

    void due(String what, boolean got, boolean want) {
        due(what, got ? 1 : 0, want ? 1 : 0);
    }

    void end() {
        System.out.println(test + ": " + (made - wrong) + " of " + made + " answers are as due");
        if (wrong != 0 || made == 0) {
            System.exit(1);
        }
    }
}
