/** The sentences of the promises 8 to 16: the field. */
final class FieldPromises extends Sentences {

    private static final String WHALE_NUMBERS = "0 for its team, 1 for its strength, 2 for its speed, 3 for its breath";
    private static final String ON_CELL = "4 for its cell, -1 on the bench";
    private static final String COUNTED = "6 for its goals so far, 7 for its fouls so far, 8 for its strikes so far";
    private static final String NO_WHALE = "Throws `IndexOutOfBoundsException` if there is no such whale";
    private static final String NO_CELL = "Throws `IndexOutOfBoundsException` if there is no such cell";
    private static final String NO_WHALE_OR_CELL = "Throws `IndexOutOfBoundsException` if there is no such whale or cell";
    private static final String NO_CLOCK = "Throws `IllegalArgumentException` if the clock is out of range";
    private static final String TURNS = "Returns in how many strokes a cell that is dry will be wet, or one that is wet dry.";
    private static final String NO_WAY = "Throws `NoSuchElementException` if the whale is on the bench, or could not come "
        + "there";
    private static final String SPREADING = "Returns in how few steps a whale could come to a cell: by all cells that are as "
        + "near as can be, then by those one step farther, and so on.";
    private static final String LOWERING = "Returns the same by a second way: cell by cell, until nothing becomes less.";
    private static final String NOWHERE = "Returns how many, 0 on the bench, stranded, or as the game is over.";
    private static final int[] NO_CLOCKS = {-1, 1000, 1001, Integer.MIN_VALUE, Integer.MAX_VALUE};

    // whaleOf.

    @Holds(promise = 8, says = WHALE_NUMBERS)
    void whaleOfTellsWhatAWhaleCameWith() {
        WhalePolo polo = new WhalePolo();
        polo.whale(0, 5, 1);
        polo.whale(1, 2, 3);
        due("the whale 0", "0 5 1 20 10 0 0 0 0", () -> whaleTold(polo, 0));
        due("the whale 1", "1 2 3 20 16 0 0 0 0", () -> whaleTold(polo, 1));
    }

    @Holds(promise = 8, says = ON_CELL)
    void whaleOfTellsMinus1OnTheBench() {
        WhalePolo polo = tenWhales();
        due("a calf", -1, () -> polo.whaleOf(9, 4));
        polo.swap(0, 6);
        due("the one that came", 10, () -> polo.whaleOf(6, 4));
        due("the one that went", -1, () -> polo.whaleOf(0, 4));
    }

    @Holds(promise = 8, says = ON_CELL)
    void whaleOfTellsTheCell0() {
        WhalePolo polo = twoWhales();
        polo.swim(0, 0);
        due(0, () -> polo.whaleOf(0, 4));
    }

    @Holds(promise = 8, says = "5 for 1 if it sings, and 0 otherwise")
    void whaleOfTellsWhetherItSings() {
        WhalePolo polo = twoWhales();
        due("not yet", 0, () -> polo.whaleOf(0, 5));
        polo.sing(0);
        due("now", 1, () -> polo.whaleOf(0, 5));
    }

    @Holds(promise = 8, says = COUNTED)
    void whaleOfTellsGoalsFoulsAndStrikes() {
        WhalePolo polo = songAtBuoy();
        polo.strike(0, EAST, 1);
        polo.strike(0, EAST, 1);
        polo.strike(1, WEST, 5);
        due("the whale 0", "0 2 2", () -> polo.whaleOf(0, 6) + " " + polo.whaleOf(0, 7) + " " + polo.whaleOf(0, 8));
        due("the whale 1", "1 0 2", () -> polo.whaleOf(1, 6) + " " + polo.whaleOf(1, 7) + " " + polo.whaleOf(1, 8));
    }

    @Holds(promise = 8, says = COUNTED)
    void theCountsOfAWhaleStayByTheEndOfAChukka() {
        WhalePolo polo = songAtBuoy();
        polo.strike(0, EAST, 1);
        polo.strike(1, WEST, 5);
        drift(polo, 3);
        due("the whale 0", "0 1 1", () -> polo.whaleOf(0, 6) + " " + polo.whaleOf(0, 7) + " " + polo.whaleOf(0, 8));
        due("the whale 1", "1 0 2", () -> polo.whaleOf(1, 6) + " " + polo.whaleOf(1, 7) + " " + polo.whaleOf(1, 8));
    }

    @Holds(promise = 8, says = NO_WHALE)
    void whaleOfNoWhale() {
        WhalePolo polo = tenWhales();
        for (int wrong : noWhales(10)) {
            index("the whale " + wrong, () -> polo.whaleOf(wrong, 0));
        }
        index("without whales", () -> new WhalePolo().whaleOf(0, 0));
    }

    @Holds(promise = 8, says = "Throws `IllegalArgumentException` if what is not 0 to 8")
    void whaleOfNoNumber() {
        WhalePolo polo = tenWhales();
        for (int wrong : new int[] {-1, 9, 10, Integer.MIN_VALUE, Integer.MAX_VALUE}) {
            argument("the number " + wrong, () -> polo.whaleOf(0, wrong));
            argument("the number " + wrong + " of the last", () -> polo.whaleOf(9, wrong));
        }
    }

    // at.

    @Holds(promise = 9, says = "Returns the whale, -1 if there is none.")
    void atTellsTheWhale() {
        WhalePolo polo = tenWhales();
        int[] cells = {10, 19, 28, 16, 25, 34};
        for (int whale = 0; whale < 6; whale++) {
            int cell = cells[whale];
            due("on " + cell, whale, () -> polo.at(cell));
        }
    }

    @Holds(promise = 9, says = "Returns the whale, -1 if there is none.")
    void atTellsMinus1WithoutAWhale() {
        WhalePolo polo = tenWhales();
        polo.swim(0, 11);
        for (int cell : new int[] {0, 10, 22, 44}) {
            due("on " + cell, -1, () -> polo.at(cell));
        }
    }

    @Holds(promise = 9, says = NO_CELL)
    void atNoCell() {
        WhalePolo polo = tenWhales();
        for (int wrong : NO_CELLS) {
            index("the cell " + wrong, () -> polo.at(wrong));
        }
    }

    // isDry.

    @Holds(promise = 10, says = "Tells whether a cell is dry now.")
    void isDryTurnsAtTheTide2() {
        int[] clocks = {5, 6, 10, 11, 21, 22, 26, 27, 37, 38, 42, 43, 48};
        boolean[] dry = {false, true, true, false, false, true, true, false, false, true, true, false, false};
        WhalePolo polo = new WhalePolo();
        for (int row = 0; row < clocks.length; row++) {
            drift(polo, clocks[row] - polo.account(1));
            due("at " + clocks[row], dry[row], () -> polo.isDry(44));
        }
    }

    @Holds(promise = 10, says = "Tells whether a cell is dry now.")
    void isDryKnowsTheRowsBesideTheEdges() {
        WhalePolo polo = new WhalePolo();
        drift(polo, 8);
        due("8 and 9", "true false", () -> polo.isDry(8) + " " + polo.isDry(9));
        due("35 and 36", "false true", () -> polo.isDry(35) + " " + polo.isDry(36));
    }

    @Holds(promise = 10, says = NO_CELL)
    void isDryOfNoCell() {
        WhalePolo polo = new WhalePolo();
        for (int wrong : NO_CELLS) {
            index("the cell " + wrong, () -> polo.isDry(wrong));
        }
    }

    // tide and tideAgain.

    @Holds(promise = 11, says = "`clock`: the clock, 0 to 999")
    void theTideOfTheFirstAndOfTheLastClock() {
        WhalePolo polo = new WhalePolo();
        due("at 0", 8, () -> polo.tide(0));
        due("at 1", 7, () -> polo.tide(1));
        due("at 998", 2, () -> polo.tide(998));
        due("at 999", 1, () -> polo.tide(999));
    }

    @Holds(promise = 11, says = "Returns how high the tide is: stroke by stroke.")
    void theTideIsThatOfTheAskedClock() {
        WhalePolo polo = new WhalePolo();
        drift(polo, 8);
        due("at 0", 8, () -> polo.tide(0));
        due("at 8", 0, () -> polo.tide(8));
        drift(polo, 40);
        due("at 48", 8, () -> polo.tide(48));
        due("at 56", 0, () -> polo.tide(56));
    }

    @Holds(promise = 11, says = NO_CLOCK)
    void theTideOfNoClock() {
        WhalePolo polo = new WhalePolo();
        for (int wrong : NO_CLOCKS) {
            argument("the clock " + wrong, () -> polo.tide(wrong));
        }
    }

    @Holds(promise = 12, says = "`clock`: the clock, 0 to 999")
    void theTideAgainOfTheFirstAndOfTheLastClock() {
        WhalePolo polo = new WhalePolo();
        due("at 0", 8, () -> polo.tideAgain(0));
        due("at 1", 7, () -> polo.tideAgain(1));
        due("at 998", 2, () -> polo.tideAgain(998));
        due("at 999", 1, () -> polo.tideAgain(999));
    }

    @Holds(promise = 12, says = "Returns the same by a second way: by dividing.")
    void theTideAgainIsTheSame() {
        WhalePolo polo = new WhalePolo();
        for (int clock = 0; clock < 50; clock++) {
            int asked = clock;
            due("at " + clock, polo.tide(clock), () -> polo.tideAgain(asked));
        }
    }

    @Holds(promise = 12, says = NO_CLOCK)
    void theTideAgainOfNoClock() {
        WhalePolo polo = new WhalePolo();
        for (int wrong : NO_CLOCKS) {
            argument("the clock " + wrong, () -> polo.tideAgain(wrong));
        }
    }

    // turnsIn.

    @Holds(promise = 13, says = TURNS)
    void aWetCellWillBeDry() {
        WhalePolo polo = new WhalePolo();
        for (int clock = 0; clock < 6; clock++) {
            int due = 6 - clock;
            due("the first row at " + clock, due, () -> polo.turnsIn(0));
            due("the last row at " + clock, due, () -> polo.turnsIn(44));
            polo.drift();
        }
    }

    @Holds(promise = 13, says = TURNS)
    void aDryCellWillBeWet() {
        WhalePolo polo = new WhalePolo();
        drift(polo, 6);
        for (int clock = 6; clock < 11; clock++) {
            int due = 11 - clock;
            due("the first row at " + clock, due, () -> polo.turnsIn(8));
            due("the last row at " + clock, due, () -> polo.turnsIn(36));
            polo.drift();
        }
    }

    @Holds(promise = 13, says = TURNS)
    void aCellThatIsWetAgainWillBeDryByTheNextTide() {
        WhalePolo polo = new WhalePolo();
        drift(polo, 11);
        for (int clock = 11; clock < 22; clock++) {
            int due = 22 - clock;
            due("at " + clock, due, () -> polo.turnsIn(0));
            polo.drift();
        }
        due("at 22", 5, () -> polo.turnsIn(0));
    }

    @Holds(promise = 13, says = TURNS)
    void aCellTurnsOnceTheGameIsOverToo() {
        WhalePolo polo = new WhalePolo();
        drift(polo, 47);
        due("at 47", 7, () -> polo.turnsIn(0));
        polo.drift();
        due("at 48", 6, () -> polo.turnsIn(0));
    }

    @Holds(promise = 13, says = NO_CELL)
    void turnsInOfNoCell() {
        WhalePolo polo = new WhalePolo();
        for (int wrong : NO_CELLS) {
            index("the cell " + wrong, () -> polo.turnsIn(wrong));
        }
    }

    @Holds(promise = 13, says = "Throws `NoSuchElementException` if it is never dry")
    void turnsInOfACellThatIsNeverDry() {
        WhalePolo polo = new WhalePolo();
        for (int cell = 9; cell < 36; cell++) {
            int asked = cell;
            none(() -> polo.turnsIn(asked));
        }
        due("the cell 8", 6, () -> polo.turnsIn(8));
        due("the cell 36", 6, () -> polo.turnsIn(36));
    }

    // steps and stepsAgain.

    @Holds(promise = 14, says = SPREADING)
    void theStepsToAllCells() {
        WhalePolo polo = new WhalePolo();
        polo.whale(0, 1, 1);
        for (int cell = 0; cell < 45; cell++) {
            int asked = cell;
            int due = Math.abs(cell / 9 - 1) + Math.abs(cell % 9 - 1);
            due("to " + cell, due, () -> polo.steps(0, asked));
        }
    }

    @Holds(promise = 14, says = SPREADING)
    void theStepsAroundOtherWhales() {
        WhalePolo polo = sixWhales();
        due("from 19 to 1", 4, () -> polo.steps(1, 1));
        due("from 19 to 37", 4, () -> polo.steps(1, 37));
        due("from 25 to 7", 4, () -> polo.steps(4, 7));
    }

    /** The whale 0 of team 0 on the first cell, the whale 1 of team 1 on the last one. */
    private static WhalePolo whalesInTheCorners() {
        WhalePolo polo = twoWhales();
        polo.swim(0, 0);
        polo.swim(1, 35);
        polo.swim(1, 44);
        return polo;
    }

    @Holds(promise = 14, says = SPREADING)
    void theStepsFromTheFirstAndTheLastCell() {
        WhalePolo polo = whalesInTheCorners();
        due("from 0 to 0", 0, () -> polo.steps(0, 0));
        due("from 0 to 43", 11, () -> polo.steps(0, 43));
        due("from 44 to 44", 0, () -> polo.steps(1, 44));
        due("from 44 to 1", 11, () -> polo.steps(1, 1));
    }

    /** The whale 0 in the corner between a dry cell and the whales 1 and 2; the clock is 6. */
    private static WhalePolo shutIn() {
        WhalePolo polo = sixWhales();
        polo.swim(0, 9);
        polo.swim(1, 10);
        polo.swim(2, 18);
        drift(polo, 3);
        return polo;
    }

    @Holds(promise = 14, says = NO_WHALE_OR_CELL)
    void stepsOfNoWhaleOrToNoCell() {
        WhalePolo polo = twoWhales();
        for (int wrong : noWhales(2)) {
            index("the whale " + wrong, () -> polo.steps(wrong, 22));
        }
        for (int wrong : NO_CELLS) {
            index("the cell " + wrong, () -> polo.steps(0, wrong));
        }
        index("without whales", () -> new WhalePolo().steps(0, 0));
    }

    @Holds(promise = 14, says = NO_WAY)
    void stepsFromTheBench() {
        WhalePolo polo = tenWhales();
        none(() -> polo.steps(6, 22));
        none(() -> polo.steps(6, 10));
        none(() -> polo.steps(6, 0));
    }

    @Holds(promise = 14, says = NO_WAY)
    void stepsToWhereTheWhaleCouldNotCome() {
        WhalePolo polo = shutIn();
        none(() -> polo.steps(0, 11));
        none(() -> polo.steps(0, 0));
        none(() -> polo.steps(0, 10));
        due("to its own cell", 0, () -> polo.steps(0, 9));
        due("of another", 1, () -> polo.steps(1, 11));
    }

    @Holds(promise = 15, says = LOWERING)
    void theStepsAgainToAllCells() {
        WhalePolo polo = new WhalePolo();
        polo.whale(1, 1, 1);
        for (int cell = 0; cell < 45; cell++) {
            int asked = cell;
            int due = Math.abs(cell / 9 - 1) + Math.abs(cell % 9 - 7);
            due("to " + cell, due, () -> polo.stepsAgain(0, asked));
        }
    }

    @Holds(promise = 15, says = LOWERING)
    void theStepsAgainFromTheFirstAndTheLastCell() {
        WhalePolo polo = whalesInTheCorners();
        due("from 0 to 0", 0, () -> polo.stepsAgain(0, 0));
        due("from 0 to 43", 11, () -> polo.stepsAgain(0, 43));
        due("from 44 to 44", 0, () -> polo.stepsAgain(1, 44));
        due("from 44 to 1", 11, () -> polo.stepsAgain(1, 1));
    }

    @Holds(promise = 15, says = LOWERING)
    void theStepsAgainAroundOtherWhales() {
        WhalePolo polo = sixWhales();
        due("from 19 to 1", 4, () -> polo.stepsAgain(1, 1));
        due("from 19 to 37", 4, () -> polo.stepsAgain(1, 37));
        due("from 25 to 7", 4, () -> polo.stepsAgain(4, 7));
    }

    @Holds(promise = 15, says = NO_WHALE_OR_CELL)
    void stepsAgainOfNoWhaleOrToNoCell() {
        WhalePolo polo = twoWhales();
        for (int wrong : noWhales(2)) {
            index("the whale " + wrong, () -> polo.stepsAgain(wrong, 22));
        }
        for (int wrong : NO_CELLS) {
            index("the cell " + wrong, () -> polo.stepsAgain(0, wrong));
        }
        index("without whales", () -> new WhalePolo().stepsAgain(0, 0));
    }

    @Holds(promise = 15, says = NO_WAY)
    void stepsAgainFromTheBench() {
        WhalePolo polo = tenWhales();
        none(() -> polo.stepsAgain(6, 22));
        none(() -> polo.stepsAgain(6, 10));
        none(() -> polo.stepsAgain(6, 0));
    }

    @Holds(promise = 15, says = NO_WAY)
    void stepsAgainToWhereTheWhaleCouldNotCome() {
        WhalePolo polo = shutIn();
        none(() -> polo.stepsAgain(0, 11));
        none(() -> polo.stepsAgain(0, 0));
        none(() -> polo.stepsAgain(0, 10));
        due("to its own cell", 0, () -> polo.stepsAgain(0, 9));
        due("of another", 1, () -> polo.stepsAgain(1, 11));
    }

    // reach.

    @Holds(promise = 16, says = "Returns to how many other cells a whale could swim by a stroke now.")
    void theReachCountsNotItsOwnCell() {
        WhalePolo polo = new WhalePolo();
        polo.whale(0, 1, 1);
        due("four beside it", 4, () -> polo.reach(0));
    }

    @Holds(promise = 16, says = "Returns to how many other cells a whale could swim by a stroke now.")
    void theReachFromTheFirstAndTheLastCell() {
        WhalePolo polo = whalesInTheCorners();
        due("from 0", 14, () -> polo.reach(0));
        due("from 44", 14, () -> polo.reach(1));
    }

    @Holds(promise = 16, says = "Returns to how many other cells a whale could swim by a stroke now.")
    void theReachCountsNeitherTakenNorDryCells() {
        WhalePolo polo = sixWhales();
        WhalePolo slow = new WhalePolo();
        slow.whale(0, 1, 1);
        slow.whale(0, 1, 1);
        due("one of four is taken", 3, () -> slow.reach(0));
        drift(slow, 6);
        due("one more is dry", 2, () -> slow.reach(0));
        due("around others", 19, () -> polo.reach(0));
    }

    @Holds(promise = 16, says = NOWHERE)
    void theReachIs0OnTheBench() {
        WhalePolo polo = tenWhales();
        due(0, () -> polo.reach(6));
    }

    @Holds(promise = 16, says = NOWHERE)
    void theReachIs0Stranded() {
        WhalePolo polo = twoWhales();
        polo.swim(0, 1);
        drift(polo, 4);
        due("not at the tide 3", 18, () -> polo.reach(0));
        polo.drift();
        due("at the tide 2", 0, () -> polo.reach(0));
    }

    @Holds(promise = 16, says = NOWHERE)
    void theReachIs0OnceTheGameIsOver() {
        WhalePolo polo = twoWhales();
        drift(polo, 47);
        due("not ahead of it", 22, () -> polo.reach(0));
        polo.drift();
        due("over", 0, () -> polo.reach(0));
    }

    @Holds(promise = 16, says = NO_WHALE)
    void theReachOfNoWhale() {
        WhalePolo polo = tenWhales();
        for (int wrong : noWhales(10)) {
            index("the whale " + wrong, () -> polo.reach(wrong));
        }
        index("without whales", () -> new WhalePolo().reach(0));
    }
}
