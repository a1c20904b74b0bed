/** Counts the answers that are not as due, for the tests' main methods. */
final class Check {
    interface Call {
        long run();
    }

    private static int right = 0;
    private static int wrong = 0;

    private Check() {
    }

    static void due(String call, long got, long want) {
        if (got == want) {
            right++;
        } else {
            wrong++;
            System.out.println(call + " answered " + got + ", due is " + want);
        }
    }

    static void yes(String what, boolean got) {
        due(what, got ? 1 : 0, 1);
    }

    /** The very class counts: an exception of the machine is of a class below the one that is due. */
    static void dueThrow(String call, Class<? extends RuntimeException> want, Call made) {
        String got;
        try {
            got = String.valueOf(made.run());
        } catch (RuntimeException e) {
            got = isThrownByTheClass(e) ? e.getClass().getName() : "by another's throw " + e;
        }
        if (got.equals(want.getName())) {
            right++;
        } else {
            wrong++;
            System.out.println(call + " answered " + got + ", due is " + want.getName());
        }
    }

    /** A list of the library throws IndexOutOfBoundsException too, but the class must have looked before. */
    static boolean isThrownByTheClass(RuntimeException e) {
        StackTraceElement[] trace = e.getStackTrace();
        return trace.length > 0 && trace[0].getClassName().equals("WaveFiles");
    }

    static void dueIndex(String call, Call made) {
        dueThrow(call, IndexOutOfBoundsException.class, made);
    }

    static void dueState(String call, Call made) {
        dueThrow(call, IllegalStateException.class, made);
    }

    static void dueArgument(String call, Call made) {
        dueThrow(call, IllegalArgumentException.class, made);
    }

    static void dueNoRoom(String call, Call made) {
        dueThrow(call, UnsupportedOperationException.class, made);
    }

    static void finish() {
        System.out.println(right + " answers as due, " + wrong + " not");
        if (wrong != 0 || right == 0) {
            System.exit(1);
        }
    }
}
