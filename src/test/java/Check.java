/** Counts the wrong answers of one test, prints each, and ends the test. */
final class Check {
    private String sentence = "";
    private int wrong = 0;
    private int made = 0;

    /** The document's sentence that the next answers are about; a wrong answer names it. */
    void about(String words) {
        sentence = words + ": ";
    }

    void due(String call, long got, long want) {
        made++;
        if (got != want) {
            wrong++;
            System.out.println(sentence + call + " answered " + got + ", due is " + want);
        }
    }

    void end() {
        System.out.println(made + " answers, " + wrong + " not as due");
        if (wrong != 0) {
            System.exit(1);
        }
    }
}
