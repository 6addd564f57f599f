/** Counts what was asked and prints every answer that is not the one that is due. */
final class Check {
    /** A call that may throw. */
    interface Call {
        void make();
    }

    private final String test;
    private String subject = "";
    private int asked;
    private int wrong;

    Check(String test) {
        this.test = test;
    }

    /** What the answers that follow are about, told with each wrong one. */
    void about(String what) {
        subject = what + ": ";
    }

    void due(String call, long got, long want) {
        asked++;
        if (got != want) {
            tell(call + " answered " + got + ", due is " + want);
        }
    }

    void due(String call, boolean got, boolean want) {
        due(call, got ? 1 : 0, want ? 1 : 0);
    }

    void due(String call, String got, String want) {
        asked++;
        if (!got.equals(want)) {
            tell(call + " answered '" + got + "', due is '" + want + "'");
        }
    }

    /**
     * Just this class of exception, not one below it or above it, and thrown by the program: the
     * machine's own tells its index in its text.
     */
    void dueThrow(String call, Class<? extends RuntimeException> want, Call made) {
        asked++;
        try {
            made.make();
        } catch (RuntimeException e) {
            String text = String.valueOf(e.getMessage());
            if (e.getClass() != want || text.startsWith("Index ")) {
                tell(call + " threw " + e + ", due is " + want.getName());
            }
            return;
        }
        tell(call + " threw nothing, due is " + want.getName());
    }

    int asked() {
        return asked;
    }

    int wrong() {
        return wrong;
    }

    private void tell(String text) {
        wrong++;
        if (wrong <= 50) {
            System.out.println(test + ": " + subject + text);
        }
    }

    void end() {
        System.out.println(test + ": " + asked + " answers, " + wrong + " of them wrong");
        if (wrong != 0 || asked == 0) {
            System.exit(1);
        }
    }
}
