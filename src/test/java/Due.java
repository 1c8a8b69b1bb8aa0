/** Compares answers with those that are due, and counts. */
final class Due {
    private String sentence = "";
    private int compared = 0;
    private int wrong = 0;

    /** The sentence of the document that the next answers stand for: it is told with each wrong one. */
    void about(String sentence) {
        this.sentence = "[" + sentence + "] ";
    }

    void same(String what, long got, long want) {
        compared++;
        if (got != want) {
            wrong++;
            if (wrong <= 50) {
                System.out.println(sentence + what + " answered " + got + ", due is " + want);
            }
        }
    }

    void holds(String what, boolean it) {
        same(what, it ? 1 : 0, 1);
    }

    boolean isRight() {
        return wrong == 0;
    }

    /** Ends the program with exit code 1 if an answer was wrong or none was compared. */
    void close(String test) {
        System.out.println(test + ": " + compared + " answers, " + wrong + " wrong");
        if (wrong != 0 || compared == 0) {
            System.exit(1);
        }
    }
}
