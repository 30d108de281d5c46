/** Compares answers with those that are due, and tells how many were wrong. */
final class Due {
    private int asked = 0;
    private int wrong = 0;
    private int wrongOfPart = 0;
    private String part = "";

    void part(String name) {
        part = name;
        wrongOfPart = 0;
    }

    void due(String call, long got, long want) {
        asked++;
        if (got != want) {
            miss(call + " answered " + got + ", due is " + want);
        }
    }

    void dueDouble(String call, double got, double want) {
        asked++;
        if (Double.compare(got, want) != 0) {
            miss(call + " answered " + got + ", due is " + want);
        }
    }

    void holds(String what, boolean got) {
        asked++;
        if (!got) {
            miss(what + " does not hold");
        }
    }

    private void miss(String text) {
        wrong++;
        wrongOfPart++;
        // a few of each part, so that one fault does not hide another
        if (wrongOfPart <= 5) {
            System.out.println(part + ": " + text);
        }
    }

    boolean isWrong() {
        return wrong > 0;
    }

    /** Ends the program with exit code 1 if an answer was wrong. */
    void close() {
        System.out.println(asked + " answers asked, " + wrong + " of them wrong");
        if (wrong > 0) {
            System.exit(1);
        }
    }

    static int typeAll(LineDisc disc, String text) {
        disc.clearText();
        int length = 0;
        for (int i = 0; i < text.length(); i++) {
            length = disc.type(text.charAt(i));
        }
        return length;
    }
}
