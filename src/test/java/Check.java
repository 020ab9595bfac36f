/** Compares answers with what is due, prints each one that is wrong, and ends the program with 1 then. */
final class Check {
    /** A call, and its answer; a boolean counts 1 or 0. */
    interface Call {
        long answer();
    }

    private String part = "";
    private int parts = 0;
    private int wrong = 0;
    private int checked = 0;

    /** The answer as a text, or the name of the exception that the call throws. */
    static String answerOf(Call call) {
        try {
            return Long.toString(call.answer());
        } catch (RuntimeException e) {
            // A class below the one that is due would be the machine's own: so the whole name.
            return e.getClass().getName();
        }
    }

    void begin(String name) {
        part = name;
        parts++;
    }

    /** Runs some parts; a call that throws where no exception is due counts as wrong, and the other parts go on. */
    void run(Runnable some) {
        try {
            some.run();
        } catch (RuntimeException e) {
            due("a call", e.toString(), "no exception");
        }
    }

    void due(String what, String got, String want) {
        checked++;
        if (!got.equals(want)) {
            wrong++;
            System.out.println(part + ": " + what + " answered " + got + ", due is " + want);
        }
    }

    void due(String what, long got, long want) {
        due(what, Long.toString(got), Long.toString(want));
    }

    void due(String what, boolean got, boolean want) {
        due(what, got ? 1 : 0, want ? 1 : 0);
    }

    void duePlace(String what, Call call) {
        due(what, answerOf(call), IndexOutOfBoundsException.class.getName());
    }

    void dueArgument(String what, Call call) {
        due(what, answerOf(call), IllegalArgumentException.class.getName());
    }

    void dueState(String what, Call call) {
        due(what, answerOf(call), IllegalStateException.class.getName());
    }

    /** The palette's reds, and how many there are. */
    void duePalette(String what, ColourLessen x, int... levels) {
        int colours = x.told(3);
        due(what + ": told(3)", colours, levels.length);
        for (int k = 0; k < levels.length && k < colours; k++) {
            due(what + ": red of colour " + k, x.colour(k, 0), levels[k]);
        }
    }

    /** The palette's whole colours, as at() would tell them. */
    void dueTints(String what, ColourLessen x, int... tints) {
        int colours = x.told(3);
        due(what + ": told(3)", colours, tints.length);
        for (int k = 0; k < tints.length && k < colours; k++) {
            due(what + ": colour " + k, Integer.toHexString(Pictures.tintOf(x, k)), Integer.toHexString(tints[k]));
        }
    }

    /** What samples have, from the first one on. */
    void dueIndexes(String what, ColourLessen x, int... places) {
        int width = x.told(0);
        for (int i = 0; i < places.length; i++) {
            int column = i % width;
            int row = i / width;
            due(what + ": index(" + column + ", " + row + ")", answerOf(() -> x.index(column, row)),
                    Integer.toString(places[i]));
        }
    }

    void dueCounts(String what, ColourLessen x, int... many) {
        for (int i = 0; i < many.length; i++) {
            int k = i;
            due(what + ": count(" + k + ")", answerOf(() -> x.count(k)), Integer.toString(many[k]));
        }
    }

    void end() {
        System.out.println(parts + " parts, " + checked + " answers, " + wrong + " wrong");
        if (wrong != 0) {
            System.exit(1);
        }
    }
}
