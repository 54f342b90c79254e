/** Counts answers that are not as due, and prints each of them. */
final class Checks {
    interface Call {
        long answer();
    }

    interface Act {
        void happen();
    }

    private final String name;
    private int checked = 0;
    private int wrong = 0;

    Checks(String name) {
        this.name = name;
    }

    void due(String call, long want, Call made) {
        String got;
        try {
            got = Long.toString(made.answer());
        } catch (RuntimeException e) {
            got = thrown(e);
        }
        same(call, Long.toString(want), got);
    }

    void holds(String call, boolean want, boolean got) {
        same(call, Boolean.toString(want), Boolean.toString(got));
    }

    void done(String call, Act act) {
        same(call, "nothing thrown", outcome(act));
    }

    void throwing(String call, Class<? extends RuntimeException> want, Act act) {
        same(call, "throws." + want.getSimpleName(), outcome(act));
    }

    void same(String call, String want, String got) {
        checked++;
        if (!want.equals(got)) {
            wrong++;
            System.out.println(name + ": " + call + " answered " + got + ", due is " + want);
        }
    }

    int checked() {
        return checked;
    }

    boolean anyWrong() {
        return wrong > 0;
    }

    void finish() {
        System.out.println(name + ": " + checked + " checked, " + wrong + " wrong");
        if (wrong > 0 || checked == 0) {
            System.exit(1);
        }
    }

    static String thrown(RuntimeException e) {
        return "throws." + e.getClass().getSimpleName();
    }

    private static String outcome(Act act) {
        try {
            act.happen();
            return "nothing thrown";
        } catch (RuntimeException e) {
            return thrown(e);
        }
    }
}
