/** The sentences of the promises 4 to 7: strokes. */
final class StrokePromises extends Sentences {

    private static final String NOT_SWUM = "Throws `UnsupportedOperationException` if it is refused for the reason 2, 3, 4, "
        + "7, 8, 5 or 6; the reason is then kept";
    private static final String NOT_STRUCK = "Throws `UnsupportedOperationException` if it is refused for the reason 2, 3, "
        + "4, 9, 10 or 6; the reason is then kept";
    private static final String NOT_SUNG = "Throws `UnsupportedOperationException` if it is refused for the reason 2, 3, 11 "
        + "or 6; the reason is then kept";
    private static final String NO_WHALE = "Throws `IndexOutOfBoundsException` if there is no such whale";
    private static final String NO_STRIKE = "Throws `IllegalArgumentException` if there is no such way, or the force is out "
        + "of range";
    private static final String ENDS = "Returns the cell where the buoy is then, or 45 for a goal of the team 0, and 46 for "
        + "one of the team 1.";

    // swim.

    @Holds(promise = 4, says = "Lets a whale swim to a cell.")
    void aWhaleSwimsToACell() {
        WhalePolo polo = twoWhales();
        polo.swim(0, 12);
        due("its cell", 12, () -> polo.whaleOf(0, 4));
        due("it is there", "-1 0", () -> polo.at(10) + " " + polo.at(12));
        due("the others are not changed", "1 5 4 20 16 0 0 0 0", () -> whaleTold(polo, 1));
    }

    @Holds(promise = 4, says = "Lets a whale swim to a cell.")
    void aWhaleSwimsToTheFirstAndToTheLastCell() {
        WhalePolo polo = sixWhales();
        due("to 0", 2, () -> polo.swim(0, 0));
        due("to 44", 2, () -> polo.swim(5, 44));
        due("both", "0 5", () -> polo.at(0) + " " + polo.at(44));
    }

    @Holds(promise = 4, says = "Returns how many steps it takes.")
    void aSwimReturnsItsSteps() {
        for (int steps = 1; steps <= 4; steps++) {
            WhalePolo polo = twoWhales();
            int cell = 10 + steps;
            due("to " + cell, steps, () -> polo.swim(0, cell));
        }
        WhalePolo around = sixWhales();
        due("around another whale", 4, () -> around.swim(1, 1));
    }

    @Holds(promise = 4, says = "Throws `IndexOutOfBoundsException` if there is no such whale or cell")
    void thereIsNoSuchWhaleToSwim() {
        WhalePolo polo = twoWhales();
        for (int wrong : noWhales(2)) {
            index("the whale " + wrong, () -> polo.swim(wrong, 0));
        }
        index("without whales", () -> new WhalePolo().swim(0, 0));
    }

    @Holds(promise = 4, says = "Throws `IndexOutOfBoundsException` if there is no such whale or cell")
    void thereIsNoSuchCellToSwimTo() {
        WhalePolo polo = twoWhales();
        for (int wrong : NO_CELLS) {
            index("the cell " + wrong, () -> polo.swim(0, wrong));
        }
        due("no stroke", 0, () -> polo.account(1));
    }

    @Holds(promise = 4, says = NOT_SWUM)
    void aSwimIsRefusedOnceTheGameIsOver() {
        WhalePolo polo = twoWhales();
        drift(polo, 47);
        due("not ahead of it", 1, () -> polo.swim(0, 11));
        refused(2, 48, polo, () -> polo.swim(0, 12));
    }

    @Holds(promise = 4, says = NOT_SWUM)
    void aSwimIsRefusedOnTheBench() {
        WhalePolo polo = tenWhales();
        refused(3, 9, polo, () -> polo.swim(9, 22));
    }

    @Holds(promise = 4, says = NOT_SWUM)
    void aSwimIsRefusedStranded() {
        WhalePolo polo = twoWhales();
        polo.swim(0, 1);
        drift(polo, 5);
        refused(4, 1, polo, () -> polo.swim(0, 10));
    }

    @Holds(promise = 4, says = NOT_SWUM)
    void aSwimIsRefusedToATakenCell() {
        WhalePolo polo = sixWhales();
        refused(7, 1, polo, () -> polo.swim(0, 19));
        due("the whale is left", "0 5 4 20 10 0 0 0 0", () -> whaleTold(polo, 0));
    }

    @Holds(promise = 4, says = NOT_SWUM)
    void aSwimIsRefusedToADryCell() {
        WhalePolo polo = twoWhales();
        drift(polo, 8);
        refused(8, 0, polo, () -> polo.swim(0, 1));
    }

    @Holds(promise = 4, says = NOT_SWUM)
    void aSwimIsRefusedThatIsOneStepTooFar() {
        WhalePolo polo = twoWhales();
        refused(5, 5, polo, () -> polo.swim(0, 15));
        due("one step less", 4, () -> polo.swim(0, 14));
    }

    @Holds(promise = 4, says = NOT_SWUM)
    void aSwimIsRefusedWithOneBreathTooLittle() {
        WhalePolo polo = withBreath(2);
        refused(6, 2, polo, () -> polo.swim(0, 15));
        due("one step less", 2, () -> polo.swim(0, 14));
        refused(6, 0, polo, () -> polo.swim(0, 13));
    }

    // strike.

    @Holds(promise = 5, says = "Lets a whale strike the buoy.")
    void aWhaleStrikesTheBuoy() {
        WhalePolo polo = twoWhales();
        polo.swim(0, 13);
        polo.strike(0, EAST, 2);
        due("the whale", "0 5 4 16 13 0 0 0 1", () -> whaleTold(polo, 0));
        due("the accounts", "2 2 0 0 0 24 0 1 0 0 2 0 0 4", () -> accountsOf(polo));
    }

    @Holds(promise = 5, says = "`way`: 0 for the north, 1 for the east, 2 for the south, 3 for the west")
    void theWaysAre0To3() {
        int[] ends = {13, 23, 31, 21};
        for (int way = 0; way < 4; way++) {
            WhalePolo polo = twoWhales();
            polo.swim(0, 13);
            int asked = way;
            due("the way " + way, ends[way], () -> polo.strike(0, asked, 1));
        }
    }

    @Holds(promise = 5, says = "`force`: by how many cells, 1 to 5")
    void theForcesAre1To5() {
        int[] ends = {23, 24, 25, 26, 45};
        for (int force = 1; force <= 5; force++) {
            WhalePolo polo = twoWhales();
            polo.swim(0, 13);
            int asked = force;
            due("the force " + force, ends[force - 1], () -> polo.strike(0, EAST, asked));
        }
    }

    @Holds(promise = 5, says = ENDS)
    void aStrikeReturnsTheCell() {
        WhalePolo polo = twoWhales();
        polo.swim(0, 13);
        due("where it is", 18, () -> polo.strike(0, WEST, 4));
        due("it is there", 18, () -> polo.account(5));
    }

    @Holds(promise = 5, says = ENDS)
    void aStrikeReturnsTheCellInTheNets() {
        WhalePolo polo = twoWhales();
        polo.swim(0, 13);
        due("where it stops", 4, () -> polo.strike(0, NORTH, 5));
        due("it is there", 4, () -> polo.account(5));
    }

    @Holds(promise = 5, says = ENDS)
    void aStrikeReturns45ForAGoalOfTeam0() {
        WhalePolo polo = twoWhales();
        polo.swim(1, 13);
        due("by a whale of team 1", 45, () -> polo.strike(1, EAST, 5));
        due("the buoy", "22 1 0", () -> polo.account(5) + " " + polo.account(3) + " " + polo.account(4));
    }

    @Holds(promise = 5, says = ENDS)
    void aStrikeReturns46ForAGoalOfTeam1() {
        WhalePolo polo = twoWhales();
        polo.swim(0, 13);
        due("by a whale of team 0", 46, () -> polo.strike(0, WEST, 5));
        due("the buoy", "22 0 1", () -> polo.account(5) + " " + polo.account(3) + " " + polo.account(4));
    }

    @Holds(promise = 5, says = NO_WHALE)
    void thereIsNoSuchWhaleToStrike() {
        WhalePolo polo = twoWhales();
        for (int wrong : noWhales(2)) {
            index("the whale " + wrong, () -> polo.strike(wrong, EAST, 1));
        }
        index("without whales", () -> new WhalePolo().strike(0, EAST, 1));
    }

    @Holds(promise = 5, says = NO_STRIKE)
    void thereIsNoSuchWayToStrike() {
        WhalePolo polo = twoWhales();
        polo.swim(0, 13);
        for (int wrong : new int[] {-1, 4, 5, Integer.MIN_VALUE, Integer.MAX_VALUE}) {
            argument("the way " + wrong, () -> polo.strike(0, wrong, 1));
        }
        due("no strike", "1 0", () -> polo.account(1) + " " + polo.account(7));
    }

    @Holds(promise = 5, says = NO_STRIKE)
    void thereIsNoSuchForceToStrike() {
        WhalePolo polo = twoWhales();
        polo.swim(0, 13);
        for (int wrong : new int[] {-1, 0, 6, Integer.MIN_VALUE, Integer.MAX_VALUE}) {
            argument("the force " + wrong, () -> polo.strike(0, EAST, wrong));
        }
        due("no strike", "1 0", () -> polo.account(1) + " " + polo.account(7));
    }

    @Holds(promise = 5, says = NOT_STRUCK)
    void aStrikeIsRefusedOnceTheGameIsOver() {
        WhalePolo polo = twoWhales();
        polo.swim(0, 13);
        drift(polo, 46);
        due("not ahead of it", 23, () -> polo.strike(0, EAST, 1));
        refused(2, 48, polo, () -> polo.strike(0, EAST, 1));
    }

    @Holds(promise = 5, says = NOT_STRUCK)
    void aStrikeIsRefusedOnTheBench() {
        WhalePolo polo = tenWhales();
        polo.swim(0, 13);
        polo.swap(0, 6);
        refused(3, 0, polo, () -> polo.strike(0, EAST, 1));
        due("the substitute can", 23, () -> polo.strike(6, EAST, 1));
    }

    @Holds(promise = 5, says = NOT_STRUCK)
    void aStrikeIsRefusedStranded() {
        WhalePolo polo = twoWhales();
        polo.swim(0, 13);
        polo.strike(0, NORTH, 1);
        polo.swim(0, 4);
        drift(polo, 3);
        refused(4, 4, polo, () -> polo.strike(0, SOUTH, 1));
    }

    @Holds(promise = 5, says = NOT_STRUCK)
    void aStrikeIsRefusedOneCellTooFar() {
        WhalePolo polo = twoWhales();
        polo.swim(0, 14);
        refused(9, 2, polo, () -> polo.strike(0, EAST, 1));
        polo.swim(0, 13);
        due("one cell less", 23, () -> polo.strike(0, EAST, 1));
    }

    @Holds(promise = 5, says = NOT_STRUCK)
    void aStrikeIsRefusedByAForceTooGreat() {
        WhalePolo polo = new WhalePolo();
        polo.whale(0, 4, 4);
        polo.swim(0, 13);
        refused(10, 4, polo, () -> polo.strike(0, EAST, 5));
        due("one cell less", 26, () -> polo.strike(0, EAST, 4));
    }

    @Holds(promise = 5, says = NOT_STRUCK)
    void aStrikeIsRefusedWithoutBreath() {
        WhalePolo polo = tiredAtBuoy();
        refused(6, 0, polo, () -> polo.strike(0, EAST, 1));
        due("nothing is counted", "22 0 0", () -> polo.account(5) + " " + polo.account(7) + " " + polo.whaleOf(0, 8));
    }

    // sing.

    @Holds(promise = 6, says = "Lets a whale sing.")
    void aWhaleSings() {
        WhalePolo polo = twoWhales();
        polo.sing(1);
        due("it sings", "1 5 4 19 16 1 0 0 0", () -> whaleTold(polo, 1));
        due("the other one does not", "0 5 4 20 10 0 0 0 0", () -> whaleTold(polo, 0));
    }

    @Holds(promise = 6, says = "Returns its breath then.")
    void aSongReturnsTheBreath() {
        for (int breath = 1; breath <= 20; breath++) {
            WhalePolo polo = withBreath(breath);
            due("with " + breath, breath - 1, () -> polo.sing(0));
        }
    }

    @Holds(promise = 6, says = NO_WHALE)
    void thereIsNoSuchWhaleToSing() {
        WhalePolo polo = twoWhales();
        for (int wrong : noWhales(2)) {
            index("the whale " + wrong, () -> polo.sing(wrong));
        }
        index("without whales", () -> new WhalePolo().sing(0));
    }

    @Holds(promise = 6, says = NOT_SUNG)
    void aSongIsRefusedOnceTheGameIsOver() {
        WhalePolo polo = twoWhales();
        drift(polo, 47);
        due("not ahead of it", 19, () -> polo.sing(0));
        refused(2, 48, polo, () -> polo.sing(0));
    }

    @Holds(promise = 6, says = NOT_SUNG)
    void aSongIsRefusedOnTheBench() {
        WhalePolo polo = tenWhales();
        refused(3, 7, polo, () -> polo.sing(7));
    }

    @Holds(promise = 6, says = NOT_SUNG)
    void aSecondSongIsRefused() {
        WhalePolo polo = twoWhales();
        polo.sing(1);
        refused(11, 1, polo, () -> polo.sing(1));
        due("its breath is left", 19, () -> polo.whaleOf(1, 3));
    }

    @Holds(promise = 6, says = NOT_SUNG)
    void aSongIsRefusedWithoutBreath() {
        WhalePolo polo = withBreath(0);
        refused(6, 0, polo, () -> polo.sing(0));
    }

    // drift.

    @Holds(promise = 7, says = "Lets a stroke pass.")
    void aStrokePasses() {
        WhalePolo polo = songAtBuoy();
        polo.drift();
        due("the accounts", "2 8 0 0 0 31 1 1 0 0 2 0 0 6", () -> accountsOf(polo));
        due("the whale 0", "0 5 4 16 22 0 0 0 0", () -> whaleTold(polo, 0));
        due("the whale 1", "1 5 4 14 32 1 0 0 1", () -> whaleTold(polo, 1));
    }

    @Holds(promise = 7, says = "Returns the clock then.")
    void driftReturnsTheClock() {
        WhalePolo polo = new WhalePolo();
        for (int clock = 1; clock <= 48; clock++) {
            due("the stroke " + clock, clock, polo::drift);
        }
    }

    @Holds(promise = 7, says = "Throws `UnsupportedOperationException` if it is refused for the reason 2; the reason is then "
        + "kept")
    void driftIsRefusedOnceTheGameIsOver() {
        WhalePolo polo = new WhalePolo();
        drift(polo, 48);
        refused(2, 48, polo, polo::drift);
        refused(2, 48, polo, polo::drift);
        due("the clock", 48, () -> polo.account(1));
    }
}
