/** Compares answers with those that are due, and counts the wrong ones. */
final class Check {
    private int checked = 0;
    private int wrong = 0;

    /** A call whose answer or exception is looked at. */
    interface Call {
        Object answer();
    }

    void same(String what, Object got, Object due) {
        checked++;
        if (!got.equals(due)) {
            wrong++;
            if (wrong <= 50) {
                System.out.println(what + ": answered " + got + ", due is " + due);
            }
        }
    }

    void refuses(String what, Class<? extends RuntimeException> due, Call call) {
        same(what, outcome(call), "throws." + due.getSimpleName());
    }

    /** Returns the answer of a call, or throws.X if it throws the exception X. */
    static Object outcome(Call call) {
        try {
            return call.answer();
        } catch (RuntimeException e) {
            return "throws." + e.getClass().getSimpleName();
        }
    }

    /** Ends the test: with exit code 1 if an answer was wrong, or none was looked at. */
    void end() {
        System.out.println(checked + " answers, " + wrong + " of them wrong");
        if (wrong != 0 || checked == 0) {
            System.exit(1);
        }
    }
}
