/** Counts and prints the answers of one test that are not as due. */
final class Due {
    private int asked = 0;
    private int wrong = 0;

    void same(String call, long got, long want) {
        asked++;
        if (got != want) {
            wrong++;
            System.out.println(call + " answered " + got + ", due is " + want);
        }
    }

    void yes(String call, boolean got) {
        same(call, got ? 1 : 0, 1);
    }

    void no(String call, boolean got) {
        same(call, got ? 1 : 0, 0);
    }

    void same(String what, String got, String want) {
        asked++;
        if (!got.equals(want)) {
            wrong++;
            System.out.println(what + "\n  is  " + got + "\n  due " + want);
        }
    }

    int wrong() {
        return wrong;
    }

    /** A test that asks nothing shows nothing. */
    boolean holds() {
        return asked > 0 && wrong == 0;
    }

    /** Ends the program with exit code 1 if an answer was wrong, or if nothing was asked at all. */
    void end() {
        System.out.println(asked + " answers, " + wrong + " not as due");
        if (!holds()) {
            System.exit(1);
        }
    }
}
