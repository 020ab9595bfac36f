/** Compares answers with what is due, prints each one that is wrong, and ends the program with 1 then. */
final class Check {
    /** A call, and its answer; a boolean counts 1 or 0. */
    interface Call {
        long answer();
    }

    private String part = "";
    private int wrong = 0;
    private int checked = 0;

    void begin(String name) {
        part = name;
    }

    void due(String what, long got, long want) {
        checked++;
        if (got != want) {
            wrong++;
            System.out.println(part + ": " + what + " answered " + got + ", due is " + want);
        }
    }

    void due(String what, boolean got, boolean want) {
        due(what, got ? 1 : 0, want ? 1 : 0);
    }

    void duePlace(String what, Call call) {
        dueThrow(what, call, IndexOutOfBoundsException.class);
    }

    void dueArgument(String what, Call call) {
        dueThrow(what, call, IllegalArgumentException.class);
    }

    void dueState(String what, Call call) {
        dueThrow(what, call, IllegalStateException.class);
    }

    private void dueThrow(String what, Call call, Class<? extends RuntimeException> want) {
        checked++;
        String got;
        try {
            got = Long.toString(call.answer());
        } catch (RuntimeException e) {
            // A class below the one that is due would be the machine's own.
            if (e.getClass() == want) {
                return;
            }
            got = e.getClass().getName();
        }
        wrong++;
        System.out.println(part + ": " + what + " answered " + got + ", due is " + want.getName());
    }

    void end() {
        System.out.println(checked + " answers, " + wrong + " wrong");
        if (wrong != 0) {
            System.exit(1);
        }
    }
}
