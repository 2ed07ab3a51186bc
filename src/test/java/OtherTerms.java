/** The sentences of the terms that say things more precisely, those about exceptions, and those said besides. */
final class OtherTerms extends Sentences {

    private static final String SUBSTITUTE = "A substitute comes onto the cell of the whale that goes, with the own "
        + "breath, and does not sing";
    private static final String AHEAD = "What a call returns is as it is ahead of the end of a chukka by its stroke.";
    private static final String OWN_CELL = "To its own cell a whale comes in 0 steps, and cannot swim there, as the cell "
        + "is taken.";
    private static final String CELLS = "Whales in play can come to cells that are not dry, and on which there is no other "
        + "whale";
    private static final String THROWS = "A method that throws an exception leaves the state unchanged, unless its "
        + "documentation says otherwise.";
    private static final String FIRST = "If several exceptions apply, the one that is documented first is thrown.";
    private static final String ASKS = "Methods whose documentation does not mention a change only answer a question.";

    // More precisely.

    @Holds(says = "Whales can come at any time, which is no stroke.")
    void aWhaleComesAsTheGameIsOver() {
        WhalePolo polo = twoWhales();
        drift(polo, 48);
        due("its number", 2, () -> polo.whale(0, 1, 1));
        due("its cell", 19, () -> polo.whaleOf(2, 4));
        due("the clock", 48, () -> polo.account(1));
    }

    @Holds(says = "Whales can come at any time, which is no stroke.")
    void aWhaleThatComesEndsNoChukka() {
        WhalePolo polo = new WhalePolo();
        drift(polo, 11);
        polo.whale(0, 1, 1);
        due("11 0", () -> polo.account(1) + " " + polo.account(2));
    }

    @Holds(says = SUBSTITUTE)
    void aSubstituteHasTheOwnBreath() {
        WhalePolo polo = tenWhales();
        polo.swim(0, 14);
        polo.swap(0, 6);
        due("the substitute", "20 14", () -> polo.whaleOf(6, 3) + " " + polo.whaleOf(6, 4));
        due("the whale", "16 -1", () -> polo.whaleOf(0, 3) + " " + polo.whaleOf(0, 4));
        polo.swap(6, 0);
        due("back again", "16 14", () -> polo.whaleOf(0, 3) + " " + polo.whaleOf(0, 4));
    }

    @Holds(says = SUBSTITUTE)
    void aSubstituteForAWhaleThatSingsDoesNotSing() {
        WhalePolo polo = tenWhales();
        polo.sing(0);
        polo.swap(0, 6);
        due(0, () -> polo.whaleOf(6, 5));
    }

    @Holds(says = "the whale that goes sings no more")
    void aWhaleThatGoesSingsNoMore() {
        WhalePolo polo = tenWhales();
        polo.sing(0);
        polo.swap(0, 6);
        due("on the bench", 0, () -> polo.whaleOf(0, 5));
        polo.swap(6, 0);
        due("in play again", 0, () -> polo.whaleOf(0, 5));
        due("it can sing", 18, () -> polo.sing(0));
    }

    @Holds(says = "A whale can sing while it is stranded, and be substituted.")
    void aStrandedWhaleCanSing() {
        WhalePolo polo = tenWhales();
        polo.swim(0, 1);
        drift(polo, 5);
        due("stranded", true, () -> polo.isDry(1));
        due("its breath", 18, () -> polo.sing(0));
    }

    @Holds(says = "A whale can sing while it is stranded, and be substituted.")
    void aStrandedWhaleCanBeSubstituted() {
        WhalePolo polo = tenWhales();
        polo.swim(0, 1);
        drift(polo, 5);
        due("stranded", true, () -> polo.isDry(1));
        due("it goes", 1, () -> polo.swap(0, 6));
        due("the substitute", 1, () -> polo.whaleOf(6, 4));
        refused(4, 1, polo, () -> polo.swim(6, 10));
    }

    @Holds(says = "A song takes 1 breath.")
    void aSongTakes1Breath() {
        WhalePolo polo = twoWhales();
        due("it returns it", 19, () -> polo.sing(0));
        due("it has it", 19, () -> polo.whaleOf(0, 3));
    }

    @Holds(says = "A song takes 1 breath.")
    void aWhaleSingsByItsLastBreath() {
        WhalePolo last = withBreath(1);
        due("by the last", 0, () -> last.sing(0));
        WhalePolo polo = withBreath(0);
        refused(6, 0, polo, () -> polo.sing(0));
    }

    @Holds(says = "A goal of a whale is one of its own team that it struck.")
    void aGoalForTheOtherTeamIsNoneOfTheWhale() {
        WhalePolo polo = twoWhales();
        polo.swim(0, 13);
        polo.strike(0, WEST, 5);
        due("the whales", "0 0", () -> polo.whaleOf(0, 6) + " " + polo.whaleOf(1, 6));
        due("the team", 1, () -> polo.account(4));
    }

    @Holds(says = "A goal of a whale is one of its own team that it struck.")
    void aGoalForTheOwnTeamIsOneOfTheWhale() {
        WhalePolo polo = twoWhales();
        polo.swim(1, 13);
        polo.strike(1, WEST, 5);
        polo.strike(1, WEST, 5);
        due("0 2", () -> polo.whaleOf(0, 6) + " " + polo.whaleOf(1, 6));
    }

    @Holds(says = AHEAD)
    void aSwimReturnsAheadOfTheEnd() {
        WhalePolo polo = twoWhales();
        drift(polo, 11);
        due("the steps", 3, () -> polo.swim(0, 13));
        due("the end", "1 20", () -> polo.account(2) + " " + polo.whaleOf(0, 3));
    }

    @Holds(says = AHEAD)
    void aStrikeReturnsAheadOfTheEnd() {
        WhalePolo polo = twoWhales();
        polo.swim(0, 13);
        drift(polo, 10);
        due("the cell", 24, () -> polo.strike(0, EAST, 2));
        due("the end", "22 -1", () -> polo.account(5) + " " + polo.account(6));
    }

    @Holds(says = AHEAD)
    void aSongReturnsAheadOfTheEnd() {
        WhalePolo polo = twoWhales();
        drift(polo, 11);
        due("the breath", 19, () -> polo.sing(0));
        due("the end", "20 0", () -> polo.whaleOf(0, 3) + " " + polo.whaleOf(0, 5));
    }

    @Holds(says = AHEAD)
    void aSubstitutionReturnsAheadOfTheEnd() {
        WhalePolo polo = tenWhales();
        drift(polo, 10);
        polo.swap(0, 6);
        due("as many as were left", 0, () -> polo.swap(1, 7));
        due("the next chukka", 1, () -> polo.swap(2, 0));
    }

    @Holds(says = OWN_CELL)
    void aWhaleComesToItsOwnCellIn0Steps() {
        WhalePolo polo = twoWhales();
        due("the first way", 0, () -> polo.steps(1, 16));
        due("the second way", 0, () -> polo.stepsAgain(1, 16));
    }

    @Holds(says = OWN_CELL)
    void aStrandedWhaleComesToItsOwnCellIn0Steps() {
        WhalePolo polo = twoWhales();
        polo.swim(0, 1);
        drift(polo, 6);
        due("the first way", 0, () -> polo.steps(0, 1));
        due("the second way", 0, () -> polo.stepsAgain(0, 1));
    }

    @Holds(says = OWN_CELL)
    void aWhaleCannotSwimToItsOwnCell() {
        WhalePolo polo = twoWhales();
        refused(7, 1, polo, () -> polo.swim(1, 16));
        due("the clock", 0, () -> polo.account(1));
    }

    @Holds(says = CELLS)
    void aWhaleCannotComeToADryCell() {
        WhalePolo polo = twoWhales();
        drift(polo, 6);
        none(() -> polo.steps(0, 1));
        none(() -> polo.stepsAgain(0, 1));
        due("to a wet one", 1, () -> polo.steps(0, 11));
    }

    @Holds(says = CELLS)
    void aWhaleCannotComeToATakenCell() {
        WhalePolo polo = sixWhales();
        for (int cell : new int[] {19, 28, 16}) {
            none(() -> polo.steps(0, cell));
            none(() -> polo.stepsAgain(0, cell));
        }
    }

    @Holds(says = CELLS)
    void aWhaleCanComeToTheCellOfTheBuoy() {
        WhalePolo polo = sixWhales();
        due("the first way", 3, () -> polo.steps(1, 22));
        due("the second way", 3, () -> polo.stepsAgain(1, 22));
    }

    @Holds(says = "the speed and the breath do not matter for steps")
    void theSpeedDoesNotMatterForSteps() {
        WhalePolo polo = new WhalePolo();
        polo.whale(0, 1, 1);
        due("the first way", 10, () -> polo.steps(0, 44));
        due("the second way", 10, () -> polo.stepsAgain(0, 44));
    }

    @Holds(says = "the speed and the breath do not matter for steps")
    void theBreathDoesNotMatterForSteps() {
        WhalePolo polo = withBreath(0);
        due("the first way", 5, () -> polo.steps(0, 9));
        due("the second way", 5, () -> polo.stepsAgain(0, 9));
    }

    // Exceptions.

    /** A game with a calf of each team, an input, a line, and something kept and saved; the clock is 5. */
    private static WhalePolo midGame() {
        WhalePolo polo = tenWhales();
        polo.swim(0, 13);
        polo.strike(0, EAST, 1);
        polo.save();
        polo.sing(1);
        polo.swap(2, 6);
        polo.swim(4, 24);
        attempt(polo, game -> game.swim(0, 13));
        attempt(polo, game -> readText(game, "dx"));
        type(polo, "o0");
        polo.tell(1);
        return polo;
    }

    @Holds(says = THROWS)
    void wrongNumbersChangeNothing() {
        leavesAll("whale", OtherTerms::midGame, game -> game.whale(2, 1, 1));
        leavesAll("swap", OtherTerms::midGame, game -> game.swap(0, 10));
        leavesAll("swim", OtherTerms::midGame, game -> game.swim(0, 45));
        leavesAll("strike, no whale", OtherTerms::midGame, game -> game.strike(-1, EAST, 1));
        leavesAll("strike, no way", OtherTerms::midGame, game -> game.strike(0, 4, 1));
        leavesAll("sing", OtherTerms::midGame, game -> game.sing(10));
        leavesAll("row", OtherTerms::midGame, game -> game.row(5));
        leavesAll("tell", OtherTerms::midGame, game -> game.tell(10));
        leavesAll("append", OtherTerms::midGame, game -> game.append((char) 127));
    }

    @Holds(says = THROWS)
    void refusedCallsChangeNothingButTheReason() {
        leavesAllButReason("whale", OtherTerms::midGame, game -> game.whale(0, 1, 1));
        leavesAllButReason("swap", OtherTerms::midGame, game -> game.swap(0, 1));
        leavesAllButReason("swim", OtherTerms::midGame, game -> game.swim(0, 44));
        leavesAllButReason("strike", OtherTerms::midGame, game -> game.strike(5, EAST, 1));
        leavesAllButReason("sing", OtherTerms::midGame, game -> game.sing(1));
    }

    @Holds(says = THROWS)
    void driftChangesNothingOnceTheGameIsOver() {
        WhalePolo polo = twoWhales();
        drift(polo, 48);
        String before = stateOf(polo);
        refused(2, 48, polo, polo::drift);
        due("the state", before, () -> stateOf(polo));
    }

    @Holds(says = THROWS)
    void aFullInputIsLeft() {
        WhalePolo polo = new WhalePolo();
        for (int length = 0; length < 20; length++) {
            type(polo, "o1;");
        }
        state(() -> polo.append('d'));
        due("the length", 60, () -> polo.account(12));
        argument(polo::read);
        due("the error position is that of sixty characters", 60, polo::errorPosition);
    }

    @Holds(says = THROWS)
    void questionsThatThrowChangeNothing() {
        leavesAll("whaleOf", OtherTerms::midGame, game -> game.whaleOf(0, 9));
        leavesAll("steps", OtherTerms::midGame, game -> game.steps(0, 19));
        leavesAll("best", OtherTerms::midGame, game -> game.best(5));
        leavesAll("ranked", OtherTerms::midGame, game -> game.ranked(0, 10));
        leavesAll("calf", OtherTerms::midGame, game -> game.calf(2));
        leavesAll("character", OtherTerms::midGame, game -> game.character(99));
        leavesAll("reason", OtherTerms::midGame, game -> game.reason(3));
        leavesAll("account", OtherTerms::midGame, game -> game.account(14));
    }

    @Holds(says = FIRST)
    void aNumberOutOfRangeAheadOfARefusal() {
        WhalePolo full = tenWhales();
        argument("whale", () -> full.whale(0, 6, 1));
        WhalePolo over = twoWhales();
        drift(over, 48);
        argument("strike", () -> over.strike(0, EAST, 6));
        WhalePolo input = new WhalePolo();
        type(input, "d;d;d;d;d;d;d;d;d;d;d;d;d;d;d;d;d;d;d;d;d;d;d;d;d;d;d;d;d;d;");
        argument("append", () -> input.append((char) 31));
    }

    @Holds(says = FIRST)
    void aMissingWhaleOrCellAheadOfARefusal() {
        WhalePolo polo = twoWhales();
        drift(polo, 48);
        index("swap", () -> polo.swap(2, 0));
        index("swap", () -> polo.swap(0, 2));
        index("swim, no whale", () -> polo.swim(2, 10));
        index("swim, no cell", () -> polo.swim(0, 45));
        index("strike", () -> polo.strike(2, EAST, 1));
        index("sing", () -> polo.sing(2));
        due("no reason was kept", "throws NoSuchElementException", () -> polo.reason(0));
    }

    @Holds(says = FIRST)
    void aMissingWhaleAheadOfANumberOutOfRange() {
        WhalePolo polo = twoWhales();
        index("strike", () -> polo.strike(2, 4, 6));
        index("whaleOf", () -> polo.whaleOf(2, 9));
        index("would", () -> polo.would(2, 4, 6));
        index("wouldAgain", () -> polo.wouldAgain(2, 4, 6));
    }

    @Holds(says = FIRST)
    void aMissingWhaleOrCellAheadOfNoSuchElement() {
        WhalePolo polo = tenWhales();
        index("turnsIn", () -> polo.turnsIn(45));
        index("steps, no whale", () -> polo.steps(10, 19));
        index("steps, no cell", () -> polo.steps(6, 45));
        index("stepsAgain, no whale", () -> polo.stepsAgain(10, 19));
        index("stepsAgain, no cell", () -> polo.stepsAgain(6, 45));
        index("best", () -> polo.best(10));
    }

    @Holds(says = FIRST)
    void aNumberOutOfRangeAheadOfNoSuchElement() {
        WhalePolo polo = new WhalePolo();
        argument("ranked", () -> polo.ranked(5, 0));
        argument("calf", () -> polo.calf(2));
        argument("reason", () -> polo.reason(3));
    }

    @Holds(says = FIRST)
    void aMalformedTextAheadOfMissingWhalesAndRefusals() {
        WhalePolo polo = twoWhales();
        argument("missing", () -> readText(polo, "o9;"));
        argument("refused", () -> readText(polo, "m0@16;"));
    }

    @Holds(says = FIRST)
    void whatACommandTellsAheadOfItsRefusal() {
        WhalePolo polo = twoWhales();
        drift(polo, 48);
        for (String text : new String[] {"m0@45", "m9@0", "k0e6", "k0e0", "k9e1", "o9", "b09", "b90"}) {
            due(text, "throws IllegalStateException", () -> readText(polo, text));
        }
        none(() -> polo.reason(0));
    }

    @Holds(says = ASKS)
    void questionsAboutTheFieldChangeNothing() {
        leavesAll("whaleOf", OtherTerms::midGame, game -> game.whaleOf(0, 3));
        leavesAll("at", OtherTerms::midGame, game -> game.at(13));
        leavesAll("isDry", OtherTerms::midGame, game -> game.isDry(0));
        leavesAll("tide", OtherTerms::midGame, game -> game.tide(999));
        leavesAll("tideAgain", OtherTerms::midGame, game -> game.tideAgain(999));
        leavesAll("turnsIn", OtherTerms::midGame, game -> game.turnsIn(0));
        leavesAll("steps", OtherTerms::midGame, game -> game.steps(0, 44));
        leavesAll("stepsAgain", OtherTerms::midGame, game -> game.stepsAgain(0, 44));
        leavesAll("reach", OtherTerms::midGame, game -> game.reach(0));
    }

    @Holds(says = ASKS)
    void questionsAboutTheBuoyChangeNothing() {
        leavesAll("would", OtherTerms::midGame, game -> game.would(0, NORTH, 5));
        leavesAll("wouldAgain", OtherTerms::midGame, game -> game.wouldAgain(0, NORTH, 5));
        leavesAll("wouldFoul", OtherTerms::midGame, game -> game.wouldFoul(4));
        leavesAll("best", OtherTerms::midGame, game -> game.best(4));
        leavesAll("best of one that cannot strike", OtherTerms::midGame, game -> game.best(3));
        leavesAll("beside", OtherTerms::midGame, game -> game.beside(0));
    }

    @Holds(says = ASKS)
    void questionsAboutOrdersAndAccountsChangeNothing() {
        leavesAll("ranked", OtherTerms::midGame, game -> game.ranked(0, 9));
        leavesAll("calf", OtherTerms::midGame, game -> game.calf(0));
        leavesAll("leader", OtherTerms::midGame, WhalePolo::leader);
        leavesAll("isFair", OtherTerms::midGame, WhalePolo::isFair);
        leavesAll("character", OtherTerms::midGame, game -> game.character(0));
        leavesAll("meanBreath", OtherTerms::midGame, WhalePolo::meanBreath);
        leavesAll("foulShare", OtherTerms::midGame, WhalePolo::foulShare);
        leavesAll("account", OtherTerms::midGame, game -> game.account(13));
        leavesAll("errorPosition", OtherTerms::midGame, WhalePolo::errorPosition);
        leavesAll("reason", OtherTerms::midGame, game -> game.reason(0));
    }

    // Besides.

    @Holds(says = "The steps of a stranded whale are told by the cells beside it, as those of any other.")
    void aStrandedWhaleComesByTheWetCellsBesideIt() {
        WhalePolo polo = twoWhales();
        polo.swim(0, 1);
        drift(polo, 6);
        due("beside it", "1 1", () -> polo.steps(0, 10) + " " + polo.stepsAgain(0, 10));
        due("farther", "3 3", () -> polo.steps(0, 18) + " " + polo.stepsAgain(0, 18));
        none(() -> polo.steps(0, 2));
        none(() -> polo.stepsAgain(0, 0));
    }

    @Holds(says = "The steps of a stranded whale are told by the cells beside it, as those of any other.")
    void aStrandedWhaleWithoutWetCellsBesideItComesNowhere() {
        WhalePolo polo = sixWhales();
        polo.swim(0, 1);
        polo.swim(1, 10);
        drift(polo, 6);
        none(() -> polo.steps(0, 11));
        none(() -> polo.stepsAgain(0, 11));
    }

    @Holds(says = "To how many cells a whale could swim by a stroke is bounded by its speed and by its breath.")
    void theReachIsBoundedByTheSpeed() {
        int[] cells = {4, 10, 16, 22};
        for (int speed = 1; speed <= 4; speed++) {
            WhalePolo polo = new WhalePolo();
            polo.whale(0, 1, speed);
            due("speed " + speed, cells[speed - 1], () -> polo.reach(0));
        }
    }

    @Holds(says = "To how many cells a whale could swim by a stroke is bounded by its speed and by its breath.")
    void theReachIsBoundedByTheBreath() {
        int[] cells = {0, 4};
        for (int breath = 0; breath < 2; breath++) {
            WhalePolo polo = withBreath(breath);
            due("breath " + breath, cells[breath], () -> polo.reach(0));
        }
    }

    @Holds(says = "How near the buoy is to an end is told by columns.")
    void aStrikeToTheSideIsAsNearToTheEnd() {
        WhalePolo polo = twoWhales();
        polo.swim(0, 13);
        polo.swim(1, 14);
        polo.swim(1, 23);
        due("no way to the east: the first of those that stay in the column", 1, () -> polo.best(0));
    }
}
