/** Counts the calls whose answer is not the one that is due, and prints each of them. */
final class Due {
    private final String test;
    private int calls;
    private int wrong;

    Due(String test) {
        this.test = test;
    }

    void is(String call, long got, long want) {
        calls++;
        if (got != want) {
            wrong++;
            System.out.println(test + ": " + call + " answered " + got + ", due is " + want);
        }
    }

    void is(String call, boolean got, boolean want) {
        is(call, got ? 1 : 0, want ? 1 : 0);
    }

    void is(String call, String got, String want) {
        calls++;
        if (!got.equals(want)) {
            wrong++;
            System.out.println(test + ": " + call + " answered \"" + got + "\", due is \"" + want + "\"");
        }
    }

    /** Prints what was counted; ends the program with exit code 1 if an answer was wrong. */
    void end() {
        System.out.println(test + ": " + calls + " answers looked at, " + wrong + " wrong");
        if (wrong != 0) {
            System.exit(1);
        }
    }
}
