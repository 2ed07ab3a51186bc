/** The sentences of the terms about the field, the clock and the tide. */
final class FieldTerms extends Sentences {

    /** One whale of team 0, of strength 5 and speed 4, on the cell 10. */
    private static WhalePolo oneWhale() {
        WhalePolo polo = new WhalePolo();
        polo.whale(0, 5, 4);
        return polo;
    }

    // The field.

    @Holds(says = "All numbers are integers but two.")
    void theMeanAndTheShareHaveFractions() {
        WhalePolo polo = twoWhales();
        polo.sing(0);
        due("the mean", 19.5, polo::meanBreath);
        WhalePolo foul = songAtBuoy();
        foul.strike(0, WEST, 1);
        due("the share", 0.5f, foul::foulShare);
    }

    @Holds(says = "It has 5 rows of 9 cells")
    void theFirstCellIs0() {
        WhalePolo polo = new WhalePolo();
        due(-1, () -> polo.at(0));
        index(() -> polo.at(-1));
    }

    @Holds(says = "It has 5 rows of 9 cells")
    void theLastCellIs44() {
        WhalePolo polo = new WhalePolo();
        due(-1, () -> polo.at(44));
        index(() -> polo.at(45));
    }

    @Holds(says = "It has 5 rows of 9 cells")
    void theLastRowIs4AndHasNineCells() {
        WhalePolo polo = new WhalePolo();
        due(9, () -> polo.row(4));
        index(() -> polo.row(5));
    }

    @Holds(says = "numbered row by row from 0, the first row in the north")
    void theFirstRowIsInTheNorth() {
        WhalePolo polo = oneWhale();
        polo.swim(0, 13);
        polo.strike(0, NORTH, 2);
        polo.row(0);
        due("....o....", () -> lineOf(polo, 9));
    }

    @Holds(says = "the cell is 9 times its row, and its column, the first column in the west")
    void theCellIsNineTimesItsRowAndItsColumn() {
        WhalePolo polo = oneWhale();
        polo.row(1);
        due(".0.......", () -> lineOf(polo, 9));
    }

    @Holds(says = "the cell is 9 times its row, and its column, the first column in the west")
    void theFirstColumnIsInTheWest() {
        WhalePolo polo = oneWhale();
        polo.swim(0, 13);
        due("the cell", 18, () -> polo.strike(0, WEST, 4));
        polo.row(2);
        due("the row", "o........", () -> lineOf(polo, 9));
    }

    @Holds(says = "Two cells are beside each other if they are next to each other in a row or a column.")
    void theCellsNextInARowAndAColumnAreBeside() {
        WhalePolo polo = oneWhale();
        for (int cell : new int[] {1, 9, 11, 19}) {
            due("to " + cell, 1, () -> polo.steps(0, cell));
        }
    }

    @Holds(says = "Two cells are beside each other if they are next to each other in a row or a column.")
    void cellsAcrossACornerAreNotBeside() {
        WhalePolo polo = oneWhale();
        for (int cell : new int[] {0, 2, 18, 20}) {
            due("to " + cell, 2, () -> polo.steps(0, cell));
        }
    }

    @Holds(says = "Two cells are beside each other if they are next to each other in a row or a column.")
    void theEndOfARowIsNotBesideTheBeginningOfTheNext() {
        WhalePolo polo = twoWhales();
        polo.swim(1, 17);
        due("the first way", 9, () -> polo.steps(1, 18));
        due("the second way", 9, () -> polo.stepsAgain(1, 18));
        polo.swim(0, 9);
        due("to the row before", 9, () -> polo.steps(0, 8));
    }

    @Holds(says = "The team 0 scores at the east end, the team 1 at the west end.")
    void theTeam0ScoresAtTheEastEnd() {
        WhalePolo polo = oneWhale();
        polo.swim(0, 13);
        due("by the end", 45, () -> polo.strike(0, EAST, 5));
        due("the goals", "1 0", () -> polo.account(3) + " " + polo.account(4));
    }

    @Holds(says = "The team 0 scores at the east end, the team 1 at the west end.")
    void theTeam1ScoresAtTheWestEnd() {
        WhalePolo polo = oneWhale();
        polo.swim(0, 13);
        due("by the end", 46, () -> polo.strike(0, WEST, 5));
        due("the goals", "0 1", () -> polo.account(3) + " " + polo.account(4));
    }

    // The clock.

    @Holds(says = "The clock begins at 0")
    void theClockBeginsAt0() {
        due(0, () -> new WhalePolo().account(1));
    }

    private static final String STROKES = "each call of swim, strike, sing, swap and drift is a stroke, by which it "
        + "becomes 1 more behind all else";

    @Holds(says = STROKES)
    void eachOfTheFiveCallsIsAStroke() {
        WhalePolo polo = sixWhales();
        polo.whale(0, 1, 1);
        polo.swim(0, 13);
        due("swim", 1, () -> polo.account(1));
        polo.strike(0, EAST, 1);
        due("strike", 2, () -> polo.account(1));
        polo.sing(0);
        due("sing", 3, () -> polo.account(1));
        polo.swap(0, 6);
        due("swap", 4, () -> polo.account(1));
        polo.drift();
        due("drift", 5, () -> polo.account(1));
    }

    @Holds(says = STROKES)
    void aRefusedCallIsNoStroke() {
        WhalePolo polo = twoWhales();
        refused(7, 1, polo, () -> polo.swim(0, 16));
        refused(9, 4, polo, () -> polo.strike(0, EAST, 1));
        refused(13, 10, polo, () -> polo.swap(0, 0));
        due("the clock", 0, () -> polo.account(1));
    }

    @Holds(says = STROKES)
    void aSwimIsByTheTideAheadOfItsStroke() {
        WhalePolo polo = oneWhale();
        drift(polo, 5);
        due("the tide was 3", 1, () -> polo.swim(0, 1));
        due("the tide is 2", true, () -> polo.isDry(1));
        WhalePolo low = oneWhale();
        drift(low, 10);
        refused(8, 2, low, () -> low.swim(0, 1));
    }

    @Holds(says = STROKES)
    void aStrikeIsByTheTideAheadOfItsStroke() {
        WhalePolo polo = oneWhale();
        polo.swim(0, 13);
        drift(polo, 4);
        due("the tide was 3", 4, () -> polo.strike(0, NORTH, 2));
        due("the tide is 2", "true 0", () -> polo.isDry(4) + " " + polo.account(11));
    }

    @Holds(says = "The game has 4 chukkas, numbered from 0, each of 12 strokes")
    void aChukkaHasTwelveStrokes() {
        WhalePolo polo = new WhalePolo();
        for (int clock = 0; clock < 48; clock++) {
            int due = clock < 12 ? 0 : clock < 24 ? 1 : clock < 36 ? 2 : 3;
            due("at " + clock, due, () -> polo.account(2));
            polo.drift();
        }
    }

    @Holds(says = "it is over at 48")
    void theGameIsNotOverAt47() {
        WhalePolo polo = new WhalePolo();
        drift(polo, 47);
        due("the chukka", 3, () -> polo.account(2));
        due("one more stroke", 48, polo::drift);
    }

    @Holds(says = "it is over at 48")
    void theGameIsOverAt48() {
        WhalePolo polo = oneWhale();
        drift(polo, 48);
        due("the chukka", 4, () -> polo.account(2));
        refused(2, 48, polo, polo::drift);
        refused(2, 48, polo, () -> polo.swim(0, 11));
        refused(2, 48, polo, () -> polo.sing(0));
    }

    /** Team 0 has the right, the buoy is on 21, and the whale 1 sings, two strokes ahead of the end of a chukka. */
    private static WhalePolo aheadOfTheEnd(int chukka) {
        WhalePolo polo = new WhalePolo();
        for (int whale = 0; whale < 4; whale++) {
            polo.whale(0, 5, 4);
        }
        polo.swim(0, 13);
        drift(polo, 12 * chukka + 7);
        polo.strike(0, WEST, 1);
        polo.sing(1);
        return polo;
    }

    @Holds(says = "As a chukka ends, whichever it is, the buoy goes to the cell 22")
    void theBuoyGoesTo22AsAChukkaEnds() {
        for (int chukka = 0; chukka < 4; chukka++) {
            WhalePolo polo = aheadOfTheEnd(chukka);
            polo.drift();
            due("not ahead of the end of " + chukka, 21, () -> polo.account(5));
            polo.drift();
            due("by the end of " + chukka, 22, () -> polo.account(5));
        }
    }

    @Holds(says = "no team has the right any more, no whale sings any more")
    void noTeamHasTheRightAsAChukkaEnds() {
        for (int chukka = 0; chukka < 4; chukka++) {
            WhalePolo polo = aheadOfTheEnd(chukka);
            polo.drift();
            due("not ahead of the end of " + chukka, 0, () -> polo.account(6));
            polo.drift();
            due("by the end of " + chukka, -1, () -> polo.account(6));
        }
    }

    @Holds(says = "no whale sings any more")
    void noWhaleSingsAsAChukkaEnds() {
        for (int chukka = 0; chukka < 4; chukka++) {
            WhalePolo polo = aheadOfTheEnd(chukka);
            polo.drift();
            due("not ahead of the end of " + chukka, 1, () -> polo.whaleOf(1, 5));
            polo.drift();
            due("by the end of " + chukka, 0, () -> polo.whaleOf(1, 5));
        }
    }

    @Holds(says = "each whale has 5 breath more, up to 20")
    void eachWhaleHas5BreathMoreUpTo20() {
        for (int breath = 0; breath <= 20; breath++) {
            WhalePolo polo = withBreath(breath);
            drift(polo, 12 - polo.account(1));
            due("with " + breath, breath < 15 ? breath + 5 : 20, () -> polo.whaleOf(0, 3));
        }
    }

    @Holds(says = "each whale has 5 breath more, up to 20")
    void soHasEachWhaleOnTheBench() {
        WhalePolo polo = new WhalePolo();
        for (int whale = 0; whale < 4; whale++) {
            polo.whale(0, 5, 4);
        }
        polo.swim(0, 14);
        polo.swim(0, 10);
        polo.swap(0, 3);
        drift(polo, 8);
        due("not ahead of the end", 12, () -> polo.whaleOf(0, 3));
        polo.drift();
        due("on the bench", "17 -1", () -> polo.whaleOf(0, 3) + " " + polo.whaleOf(0, 4));
    }

    @Holds(says = "each whale has 5 breath more, up to 20")
    void soHasEachWhaleByTheLastEnd() {
        WhalePolo polo = oneWhale();
        drift(polo, 44);
        polo.swim(0, 14);
        polo.swim(0, 10);
        drift(polo, 1);
        due("not ahead of the end", 12, () -> polo.whaleOf(0, 3));
        polo.drift();
        due("by the end", 17, () -> polo.whaleOf(0, 3));
    }

    @Holds(says = "each team can make 2 substitutions again")
    void eachTeamCanMake2SubstitutionsAgain() {
        WhalePolo polo = tenWhales();
        polo.swap(0, 6);
        polo.swap(1, 7);
        polo.swap(3, 8);
        polo.swap(4, 9);
        drift(polo, 7);
        refused(14, 2, polo, () -> polo.swap(2, 0));
        refused(14, 2, polo, () -> polo.swap(5, 3));
        polo.drift();
        due("the team 0", 1, () -> polo.swap(2, 0));
        due("the team 1", 1, () -> polo.swap(5, 3));
        due("the team 0 once more", 0, () -> polo.swap(0, 2));
    }

    // The tide.

    @Holds(says = "The tide is 8 at the clock 0, becomes 1 less by each stroke down to 0, then 1 more by each up to 8, "
        + "and so on.")
    void theTideFallsTo0AndRisesTo8() {
        WhalePolo polo = new WhalePolo();
        int[] heights = {8, 7, 6, 5, 4, 3, 2, 1, 0, 1, 2, 3, 4, 5, 6, 7, 8};
        for (int clock = 0; clock < heights.length; clock++) {
            int asked = clock;
            due("at " + clock, heights[clock], () -> polo.tide(asked));
        }
    }

    @Holds(says = "and so on")
    void theTideBeginsAgainAfter16Strokes() {
        WhalePolo polo = new WhalePolo();
        int[] clocks = {15, 16, 17, 23, 24, 25, 31, 32, 33, 48, 991, 992, 993, 999};
        int[] heights = {7, 8, 7, 1, 0, 1, 7, 8, 7, 8, 7, 8, 7, 1};
        for (int row = 0; row < clocks.length; row++) {
            int asked = clocks[row];
            due("at " + asked, heights[row], () -> polo.tide(asked));
            due("again at " + asked, heights[row], () -> polo.tideAgain(asked));
        }
    }

    @Holds(says = "While it is 2 or less, the rows 0 and 4 are dry")
    void theRows0And4AreDryWhileTheTideIs2OrLess() {
        WhalePolo polo = new WhalePolo();
        for (int clock = 0; clock <= 16; clock++) {
            boolean isLow = clock >= 6 && clock <= 10;
            for (int cell : new int[] {0, 8, 36, 44}) {
                due(cell + " at " + clock, isLow, () -> polo.isDry(cell));
            }
            polo.drift();
        }
    }

    @Holds(says = "While it is 2 or less, the rows 0 and 4 are dry")
    void allCellsOfTheRows0And4AreDryByLowTide() {
        WhalePolo polo = new WhalePolo();
        drift(polo, 8);
        for (int column = 0; column < 9; column++) {
            int cell = column;
            due("the cell " + cell, true, () -> polo.isDry(cell));
            due("the cell " + (36 + cell), true, () -> polo.isDry(36 + cell));
        }
    }

    @Holds(says = "no other cells ever are")
    void noOtherCellsAreDryByLowTide() {
        WhalePolo polo = new WhalePolo();
        drift(polo, 8);
        for (int cell = 9; cell < 36; cell++) {
            int asked = cell;
            due("the cell " + cell, false, () -> polo.isDry(asked));
        }
    }

    @Holds(says = "A whale on a dry cell is stranded.")
    void aWhaleOnADryCellIsStranded() {
        WhalePolo polo = oneWhale();
        polo.swim(0, 1);
        drift(polo, 4);
        due("not at the tide 3", 1, () -> polo.swim(0, 2));
        refused(4, 2, polo, () -> polo.swim(0, 11));
        drift(polo, 4);
        refused(4, 2, polo, () -> polo.swim(0, 11));
        polo.drift();
        due("not at the tide 3 again", 1, () -> polo.swim(0, 11));
    }

    @Holds(says = "A whale on a dry cell is stranded.")
    void aWhaleOnACellThatIsNeverDryIsNotStranded() {
        WhalePolo polo = oneWhale();
        drift(polo, 8);
        due(1, () -> polo.swim(0, 11));
    }
}
