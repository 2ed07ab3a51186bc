import java.util.function.Consumer;
import java.util.function.Supplier;

/** What the tests of single sentences use; each of their methods holds one sentence, and bears its words. */
abstract class Sentences extends Games {

    /** Numbers of which none is a cell. */
    static final int[] NO_CELLS = {-1, 45, 46, Integer.MIN_VALUE, Integer.MAX_VALUE};

    private Check check;
    private String name;

    void begin(Check check, String name) {
        this.check = check;
        this.name = name;
    }

    void due(Object want, Check.Call call) {
        check.due(name, want, call);
    }

    void due(String what, Object want, Check.Call call) {
        check.due(name + ", " + what, want, call);
    }

    void index(Check.Call call) {
        check.index(name, call);
    }

    void index(String what, Check.Call call) {
        check.index(name + ", " + what, call);
    }

    void argument(Check.Call call) {
        check.argument(name, call);
    }

    void argument(String what, Check.Call call) {
        check.argument(name + ", " + what, call);
    }

    void none(Check.Call call) {
        check.none(name, call);
    }

    void state(Check.Call call) {
        check.state(name, call);
    }

    void arithmetic(Check.Call call) {
        due("throws ArithmeticException", call);
    }

    void refused(int reason, int detail, WhalePolo polo, Check.Call call) {
        check.refused(name, reason, detail, polo, call);
    }

    void refusedCommand(int reason, int detail, int command, WhalePolo polo, String text) {
        check.refused(name + ", " + text, reason, detail, command, polo, () -> readText(polo, text));
    }

    void malformed(int position, String text) {
        WhalePolo polo = new WhalePolo();
        check.argument(name + ", " + text, () -> readText(polo, text));
        check.due(name + ", the error position of " + text, position, polo::errorPosition);
    }

    /** Numbers of which none is that of a whale. */
    static int[] noWhales(int whales) {
        return new int[] {-1, whales, whales + 1, 99, Integer.MIN_VALUE, Integer.MAX_VALUE};
    }

    /** That a call, whatever it answers, leaves all but the reason: the game, the history, and what was saved. */
    void leavesAllButReason(String call, Supplier<WhalePolo> games, Consumer<WhalePolo> made) {
        for (int undone = 0; undone <= 7; undone++) {
            int steps = undone;
            due(call + ", " + steps + " changes undone", undoneState(games.get(), steps), () -> {
                WhalePolo polo = games.get();
                attempt(polo, made);
                return undoneState(polo, steps);
            });
        }
        due(call + ", restored", restoredState(games.get()), () -> {
            WhalePolo polo = games.get();
            attempt(polo, made);
            return restoredState(polo);
        });
    }

    void leavesAll(String call, Supplier<WhalePolo> games, Consumer<WhalePolo> made) {
        leavesAllButReason(call, games, made);
        due(call + ", the reason", reasonOf(games.get()), () -> {
            WhalePolo polo = games.get();
            attempt(polo, made);
            return reasonOf(polo);
        });
    }

    static void attempt(WhalePolo polo, Consumer<WhalePolo> made) {
        Check.told(() -> {
            made.accept(polo);
            return "";
        });
    }

    private static String undoneState(WhalePolo polo, int steps) {
        for (int undone = 0; undone < steps; undone++) {
            Check.told(polo::undo);
        }
        return stateOf(polo);
    }

    private static String restoredState(WhalePolo polo) {
        return Check.told(polo::restore) + " " + stateOf(polo);
    }

    static String stateOf(WhalePolo polo) {
        return gameOf(polo) + accountsOf(polo) + " " + Check.told(polo::errorPosition) + " " + lineOf(polo);
    }

    static String reasonOf(WhalePolo polo) {
        return Check.told(() -> polo.reason(0)) + " " + Check.told(() -> polo.reason(1)) + " "
            + Check.told(() -> polo.reason(2));
    }
}
