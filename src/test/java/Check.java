/** What all tests use: it counts answers that are not due, and ends the program with code 1 if there were any. */
final class Check {

    interface Call {
        Object answer();
    }

    private final String name;
    private int wrong = 0;
    private int made = 0;

    Check(String name) {
        this.name = name;
    }

    /** The answer of a call as a text, or the exception that it throws. */
    static String told(Call call) {
        try {
            return String.valueOf(call.answer());
        } catch (RuntimeException e) {
            return "throws " + e.getClass().getSimpleName();
        }
    }

    void due(String what, Object want, Call call) {
        same(what, String.valueOf(want), told(call));
    }

    void same(String what, Object want, Object got) {
        made++;
        if (!String.valueOf(want).equals(String.valueOf(got))) {
            wrong++;
            if (wrong <= 50) {
                System.out.println(name + ": " + what + ": due is " + want + ", the answer was " + got);
            }
        }
    }

    void index(String what, Call call) {
        due(what, "throws IndexOutOfBoundsException", call);
    }

    void argument(String what, Call call) {
        due(what, "throws IllegalArgumentException", call);
    }

    void none(String what, Call call) {
        due(what, "throws NoSuchElementException", call);
    }

    void state(String what, Call call) {
        due(what, "throws IllegalStateException", call);
    }

    /** A refusal of a call that is no command of a text. */
    void refused(String what, int reason, int detail, WhalePolo polo, Call call) {
        refused(what, reason, detail, -1, polo, call);
    }

    void refused(String what, int reason, int detail, int command, WhalePolo polo, Call call) {
        due(what, "throws UnsupportedOperationException", call);
        due(what + ", its reason", reason, () -> polo.reason(0));
        due(what + ", its detail", detail, () -> polo.reason(1));
        due(what + ", its command", command, () -> polo.reason(2));
    }

    void end() {
        System.out.println(name + ": " + made + " answers, " + wrong + " wrong");
        if (wrong != 0) {
            System.exit(1);
        }
    }
}
