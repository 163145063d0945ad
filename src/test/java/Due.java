/** Counts and prints the calls whose answers are not the ones that are due. */
final class Due {
    // One fault can make very many answers wrong; the first ones tell enough.
    private static final int MOST_LINES = 200;

    private int wrong = 0;
    private int asked = 0;
    private String about = "";

    /** Names what the next calls are about, for the lines that are printed. */
    void about(String text) {
        about = text;
    }

    void due(String call, long got, long want) {
        asked++;
        if (got != want) {
            wrong++;
            if (wrong <= MOST_LINES) {
                System.out.println(about + ": " + call + " answered " + got + ", due is " + want);
            }
        }
    }

    void due(String call, boolean got, boolean want) {
        due(call, got ? 1 : 0, want ? 1 : 0);
    }

    int wrong() {
        return wrong;
    }

    /** Ends the test: with exit code 1 when an answer was wrong, or when nothing was asked. */
    void finish() {
        System.out.println(asked + " answers asked, " + wrong + " wrong");
        if (wrong != 0 || asked == 0) {
            System.exit(1);
        }
    }
}
