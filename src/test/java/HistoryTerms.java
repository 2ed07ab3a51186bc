/** The sentences of the terms about the history. */
final class HistoryTerms extends Sentences {

    private static final String CHANGE = "A change is a call of whale, swap, swim, strike, sing, drift or read that returns "
        + "without an exception.";
    private static final String REMEMBERS = "The object remembers everything except the reason, the input, the error "
        + "position, the line and what was saved, as it is just before a change";
    private static final String SIX = "for at most 6 changes, of which the oldest one is forgotten for good when there "
        + "would be more";

    @Holds(says = CHANGE)
    void eachOfTheSevenCallsIsAChange() {
        WhalePolo polo = new WhalePolo();
        polo.whale(0, 5, 4);
        due("whale", 1, () -> polo.account(13));
        polo.swim(0, 13);
        due("swim", 2, () -> polo.account(13));
        polo.strike(0, EAST, 1);
        due("strike", 3, () -> polo.account(13));
        polo.sing(0);
        due("sing", 4, () -> polo.account(13));
        polo.drift();
        due("drift", 5, () -> polo.account(13));
        readText(polo, "d;d");
        due("read", 6, () -> polo.account(13));
        WhalePolo swap = tenWhales();
        swap.save();
        swap.restore();
        swap.swap(0, 6);
        due("swap", 1, () -> swap.account(13));
    }

    @Holds(says = CHANGE)
    void aCallThatThrowsIsNoChange() {
        WhalePolo polo = twoWhales();
        attempt(polo, game -> game.whale(2, 1, 1));
        attempt(polo, game -> game.swap(0, 9));
        attempt(polo, game -> game.swap(0, 1));
        attempt(polo, game -> game.swim(0, 45));
        attempt(polo, game -> game.swim(0, 16));
        attempt(polo, game -> game.strike(0, EAST, 6));
        attempt(polo, game -> game.strike(0, EAST, 1));
        attempt(polo, game -> game.sing(2));
        attempt(polo, game -> readText(game, ""));
        attempt(polo, game -> readText(game, "d;o9"));
        attempt(polo, game -> readText(game, "d;m0@16"));
        due("changes", 2, () -> polo.account(13));
        due("the latest", 1, polo::undo);
        due("whales", 1, () -> polo.account(0));
    }

    @Holds(says = CHANGE)
    void noOtherCallIsAChange() {
        WhalePolo polo = twoWhales();
        polo.append('d');
        polo.save();
        polo.tell(0);
        polo.row(0);
        due(2, () -> polo.account(13));
    }

    @Holds(says = REMEMBERS)
    void theHistoryRemembersAWhaleThatCame() {
        WhalePolo polo = twoWhales();
        String before = gameOf(polo);
        polo.whale(0, 1, 1);
        polo.undo();
        due("as before", before, () -> gameOf(polo));
        due("it comes again", 2, () -> polo.whale(0, 2, 2));
        due("as it is now", "0 2 2 20 19 0 0 0 0", () -> whaleTold(polo, 2));
    }

    @Holds(says = REMEMBERS)
    void theHistoryRemembersAheadOfEachStroke() {
        WhalePolo polo = new WhalePolo();
        for (int whale = 0; whale < 4; whale++) {
            polo.whale(0, 5, 4);
        }
        polo.swim(0, 13);
        String beforeStrike = gameOf(polo);
        polo.strike(0, EAST, 1);
        String beforeSong = gameOf(polo);
        polo.sing(0);
        String beforeSwap = gameOf(polo);
        polo.swap(0, 3);
        polo.undo();
        due("ahead of the substitution", beforeSwap, () -> gameOf(polo));
        polo.undo();
        due("ahead of the song", beforeSong, () -> gameOf(polo));
        polo.undo();
        due("ahead of the strike", beforeStrike, () -> gameOf(polo));
    }

    @Holds(says = REMEMBERS)
    void theHistoryRemembersAheadOfAGoal() {
        WhalePolo polo = twoWhales();
        polo.swim(0, 13);
        polo.strike(0, EAST, 1);
        String before = gameOf(polo);
        polo.swim(0, 14);
        polo.strike(0, EAST, 5);
        due("a goal", 1, () -> polo.account(3));
        polo.undo();
        polo.undo();
        due("as before", before, () -> gameOf(polo));
    }

    @Holds(says = REMEMBERS)
    void theHistoryRemembersAheadOfTheEndOfAChukka() {
        WhalePolo polo = songAtBuoy();
        drift(polo, 4);
        String before = gameOf(polo);
        polo.drift();
        due("the end", "22 -1 0", () -> polo.account(5) + " " + polo.account(6) + " " + polo.whaleOf(1, 5));
        polo.undo();
        due("as before", before, () -> gameOf(polo));
    }

    @Holds(says = REMEMBERS)
    void theHistoryRemembersTheSubstitutionsOfTheChukka() {
        WhalePolo polo = tenWhales();
        polo.swap(0, 6);
        polo.swap(1, 7);
        polo.undo();
        due("one again", 0, () -> polo.swap(1, 7));
        refused(14, 2, polo, () -> polo.swap(2, 0));
    }

    @Holds(says = "except the reason, the input, the error position, the line and what was saved")
    void theHistoryDoesNotRememberTheReason() {
        WhalePolo polo = twoWhales();
        polo.drift();
        refused(7, 1, polo, () -> polo.swim(0, 16));
        polo.undo();
        due("7 1 -1", () -> reasonOf(polo));
    }

    @Holds(says = "except the reason, the input, the error position, the line and what was saved")
    void theHistoryDoesNotRememberTheInput() {
        WhalePolo polo = twoWhales();
        type(polo, "d;d");
        polo.undo();
        due("the length", 3, () -> polo.account(12));
        due("the commands", 2, polo::read);
        polo.undo();
        due("not given back", 0, () -> polo.account(12));
    }

    @Holds(says = "except the reason, the input, the error position, the line and what was saved")
    void theHistoryDoesNotRememberTheErrorPosition() {
        WhalePolo polo = twoWhales();
        argument(() -> readText(polo, "dx"));
        polo.undo();
        due(1, polo::errorPosition);
    }

    @Holds(says = "except the reason, the input, the error position, the line and what was saved")
    void theHistoryDoesNotRememberTheLine() {
        WhalePolo polo = twoWhales();
        polo.tell(1);
        polo.drift();
        polo.tell(0);
        polo.undo();
        due("0:0^5/4%20@10", () -> lineOf(polo));
    }

    @Holds(says = "except the reason, the input, the error position, the line and what was saved")
    void theHistoryDoesNotRememberWhatWasSaved() {
        WhalePolo polo = twoWhales();
        drift(polo, 3);
        polo.save();
        polo.undo();
        polo.undo();
        due("the clock", 1, () -> polo.account(1));
        due("it stays saved", 3, polo::restore);
    }

    @Holds(says = SIX)
    void sixChangesCanBeUndone() {
        WhalePolo polo = new WhalePolo();
        drift(polo, 6);
        due("the changes", 6, () -> polo.account(13));
        for (int left = 5; left >= 0; left--) {
            due("back", left, polo::undo);
        }
        due("the clock", 0, () -> polo.account(1));
    }

    @Holds(says = SIX)
    void theOldestOfSevenChangesIsForgotten() {
        WhalePolo polo = new WhalePolo();
        drift(polo, 7);
        due("the changes", 6, () -> polo.account(13));
        for (int left = 5; left >= 0; left--) {
            due("back", left, polo::undo);
        }
        due("the clock", 1, () -> polo.account(1));
        none(polo::undo);
    }

    @Holds(says = SIX)
    void theOldestIsForgottenForGood() {
        WhalePolo polo = new WhalePolo();
        drift(polo, 8);
        polo.undo();
        polo.undo();
        polo.undo();
        drift(polo, 1);
        due("the changes", 4, () -> polo.account(13));
        for (int left = 3; left >= 0; left--) {
            due("back", left, polo::undo);
        }
        due("the clock", 2, () -> polo.account(1));
        none(polo::undo);
    }

    @Holds(says = SIX)
    void manyChangesGoAroundTheSix() {
        WhalePolo polo = new WhalePolo();
        for (int round = 0; round < 7; round++) {
            drift(polo, 5);
            polo.undo();
            drift(polo, 1);
        }
        for (int left = 5; left >= 0; left--) {
            int clock = 29 + left;
            due("back", left + " " + clock, () -> polo.undo() + " " + polo.account(1));
        }
    }

    @Holds(says = "restore forgets all of them.")
    void restoreForgetsAllChanges() {
        WhalePolo polo = new WhalePolo();
        polo.save();
        drift(polo, 7);
        polo.restore();
        due("the changes", 0, () -> polo.account(13));
        none(polo::undo);
        polo.drift();
        due("one more", 0, polo::undo);
        due("the clock", 0, () -> polo.account(1));
    }
}
