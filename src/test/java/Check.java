/** Counts the answers that are not as due, and prints them. */
final class Check {
    private static final int MOST_PRINTED = 50;

    private long asked = 0;
    private int wrong = 0;
    private String sentence = "";

    /** The document's sentence that the answers from here on are due by. */
    void sentence(String words) {
        sentence = "\"" + words + "\": ";
    }

    void due(String call, long got, long want) {
        asked++;
        if (got != want) {
            report(call + " answered " + got + ", due is " + want);
        }
    }

    void due(String call, boolean got, boolean want) {
        due(call, got ? 1 : 0, want ? 1 : 0);
    }

    void due(String call, String got, String want) {
        asked++;
        if (!got.equals(want)) {
            report(call + " answered \"" + got + "\", due is \"" + want + "\"");
        }
    }

    private void report(String fault) {
        wrong++;
        if (wrong <= MOST_PRINTED) {
            System.out.println(sentence + fault);
        }
    }

    int wrong() {
        return wrong;
    }

    void finish(String name) {
        System.out.println(name + ": " + asked + " answers, " + wrong + " not as due");
        if (wrong != 0 || asked == 0) {
            System.exit(1);
        }
    }
}
