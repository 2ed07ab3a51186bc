/** The sentences of the promises 36 to 38: undo and saving. */
final class HistoryPromises extends Sentences {

    // undo.

    @Holds(promise = 36, says = "Undoes the latest change that is remembered.")
    void theLatestChangeIsUndone() {
        WhalePolo polo = twoWhales();
        String first = gameOf(polo);
        polo.swim(0, 13);
        String second = gameOf(polo);
        polo.strike(0, EAST, 5);
        polo.undo();
        due("the strike", second, () -> gameOf(polo));
        polo.undo();
        due("the swim", first, () -> gameOf(polo));
        polo.undo();
        polo.undo();
        due("the whales", 0, () -> polo.account(0));
    }

    @Holds(promise = 36, says = "Undoes the latest change that is remembered.")
    void aChangeBehindAnUndoneOneIsUndoneNext() {
        WhalePolo polo = twoWhales();
        polo.swim(0, 13);
        polo.undo();
        polo.swim(0, 12);
        polo.undo();
        due("10 0", () -> polo.whaleOf(0, 4) + " " + polo.account(1));
    }

    @Holds(promise = 36, says = "Undoes the latest change that is remembered.")
    void theEndOfTheGameIsUndone() {
        WhalePolo polo = twoWhales();
        drift(polo, 47);
        String before = gameOf(polo);
        polo.sing(0);
        refused(2, 48, polo, polo::drift);
        polo.undo();
        due("as before", before, () -> gameOf(polo));
        due("it goes on", 19, () -> polo.sing(0));
    }

    @Holds(promise = 36, says = "Returns the number of changes that are still remembered.")
    void theNumbersOfRememberedChangesAre5To0() {
        WhalePolo polo = new WhalePolo();
        drift(polo, 20);
        for (int left = 5; left >= 0; left--) {
            due("back", left, polo::undo);
            due("the account", left, () -> polo.account(13));
        }
    }

    @Holds(promise = 36, says = "Throws `NoSuchElementException` if no change is remembered")
    void noChangeIsRemembered() {
        WhalePolo polo = new WhalePolo();
        none(polo::undo);
        polo.drift();
        polo.undo();
        none(polo::undo);
        drift(polo, 9);
        for (int left = 5; left >= 0; left--) {
            polo.undo();
        }
        none(polo::undo);
        due("the clock", 3, () -> polo.account(1));
    }

    // save.

    @Holds(promise = 37, says = "Saves all that the history remembers for a change.")
    void allIsSavedThatTheHistoryRemembers() {
        WhalePolo polo = tenWhales();
        polo.swim(0, 13);
        polo.strike(0, EAST, 1);
        polo.sing(4);
        polo.swap(1, 6);
        String saved = gameOf(polo);
        polo.save();
        polo.swim(0, 14);
        polo.strike(0, EAST, 1);
        polo.swap(2, 7);
        polo.swim(4, 26);
        polo.restore();
        due("the game", saved, () -> gameOf(polo));
        due("the substitutions of the chukka", 0, () -> polo.swap(2, 7));
    }

    @Holds(promise = 37, says = "Saves all that the history remembers for a change.")
    void theReasonTheInputTheErrorPositionAndTheLineAreNotSaved() {
        WhalePolo polo = twoWhales();
        polo.tell(1);
        attempt(polo, game -> readText(game, "x"));
        attempt(polo, game -> game.swim(0, 16));
        polo.save();
        polo.row(4);
        attempt(polo, game -> readText(game, "dx"));
        attempt(polo, game -> game.strike(0, EAST, 1));
        type(polo, "d;d");
        polo.restore();
        due("the line", ".........", () -> lineOf(polo));
        due("the error position", 1, polo::errorPosition);
        due("the reason", "9 4 -1", () -> reasonOf(polo));
        due("the input", 2, polo::read);
    }

    @Holds(promise = 37, says = "What was saved before is replaced.")
    void aSecondSavingReplacesTheFirst() {
        WhalePolo polo = new WhalePolo();
        polo.save();
        polo.whale(0, 1, 1);
        drift(polo, 2);
        polo.save();
        polo.drift();
        due("the clock", 2, polo::restore);
        due("the whales", 1, () -> polo.account(0));
    }

    @Holds(promise = 37, says = "Returns the clock.")
    void saveReturnsTheClock() {
        WhalePolo polo = new WhalePolo();
        due("at 0", 0, polo::save);
        drift(polo, 12);
        due("at 12", 12, polo::save);
        drift(polo, 36);
        due("at 48", 48, polo::save);
    }

    // restore.

    @Holds(promise = 38, says = "Restores what was saved.")
    void whatWasSavedIsRestored() {
        WhalePolo polo = twoWhales();
        polo.swim(0, 13);
        polo.save();
        String saved = gameOf(polo);
        polo.strike(0, EAST, 5);
        polo.whale(1, 1, 1);
        drift(polo, 46);
        polo.restore();
        due("the game", saved, () -> gameOf(polo));
        due("it goes on", 45, () -> polo.strike(0, EAST, 5));
    }

    @Holds(promise = 38, says = "Restores what was saved.")
    void aGameWithoutWhalesIsRestored() {
        WhalePolo polo = new WhalePolo();
        polo.save();
        polo.whale(0, 1, 1);
        polo.whale(1, 1, 1);
        polo.restore();
        due("the whales", 0, () -> polo.account(0));
        index(() -> polo.whaleOf(0, 0));
        due("the cell", -1, () -> polo.at(10));
        due("the next one", 0, () -> polo.whale(1, 2, 2));
    }

    @Holds(promise = 38, says = "It stays saved.")
    void whatWasSavedIsRestoredAgain() {
        WhalePolo polo = twoWhales();
        polo.save();
        String saved = gameOf(polo);
        for (int time = 0; time < 3; time++) {
            polo.swim(0, 13);
            polo.strike(0, WEST, 5);
            due("the clock", 0, polo::restore);
            due("the game", saved, () -> gameOf(polo));
        }
    }

    @Holds(promise = 38, says = "Returns the clock.")
    void restoreReturnsTheClock() {
        WhalePolo polo = new WhalePolo();
        drift(polo, 5);
        polo.save();
        drift(polo, 5);
        due("ahead of what is", 5, polo::restore);
        due("the clock", 5, () -> polo.account(1));
    }

    @Holds(promise = 38, says = "Throws `IllegalStateException` if nothing was saved")
    void nothingWasSaved() {
        WhalePolo polo = twoWhales();
        state(polo::restore);
        polo.drift();
        polo.undo();
        state(polo::restore);
        due("the game is left", "2 2", () -> polo.account(0) + " " + polo.account(13));
    }
}
