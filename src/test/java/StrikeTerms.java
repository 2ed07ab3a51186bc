/** The sentences of the terms about strikes and fouls. */
final class StrikeTerms extends Sentences {

    private static final String FROM = "A whale strikes the buoy from its cell, or from one beside it, by a force of its "
        + "strength at most";
    private static final String STOPS = "It stops ahead of a cell on which there is a whale, except the striking one, "
        + "which does not stop it.";
    private static final String NETS = "It is in the nets if it would go onto another dry cell, or leave the field, but "
        + "for the east end and the west end in the rows 1, 2 and 3";
    private static final String NETTED = "then it stops where it is, and the other team has the right";
    private static final String GOAL = "If it leaves the field by one of these ends, it is a goal of the team that "
        + "scores there, whoever struck it";
    private static final String FOUL = "A strike is a foul if the other team has the right, and a whale of it sings that "
        + "is on the cell of the buoy, or beside it, as the buoy is struck.";
    private static final String KEEPS = "and the other team keeps the right, whatever comes of it";

    /** One whale of team 0, of strength 5 and speed 4, on a cell to which it swam; the buoy is on 22. */
    private static WhalePolo whaleOn(int cell) {
        WhalePolo polo = new WhalePolo();
        polo.whale(0, 5, 4);
        polo.swim(0, 13);
        if (cell != 13) {
            polo.swim(0, cell);
        }
        return polo;
    }

    /** The nets so far, and the team that has the right. */
    private static String netsAndRight(WhalePolo polo) {
        return polo.account(11) + " " + polo.account(6);
    }

    // From where, and how far.

    @Holds(says = FROM)
    void aWhaleStrikesFromTheCellOfTheBuoy() {
        WhalePolo polo = whaleOn(22);
        due(23, () -> polo.strike(0, EAST, 1));
    }

    @Holds(says = FROM)
    void aWhaleStrikesFromEachCellBesideTheBuoy() {
        for (int cell : new int[] {13, 21, 23, 31}) {
            WhalePolo polo = whaleOn(cell);
            due("from " + cell, 23, () -> polo.strike(0, EAST, 1));
        }
    }

    @Holds(says = FROM)
    void aWhaleDoesNotStrikeFromFarther() {
        for (int cell : new int[] {12, 14, 30, 32, 4, 20, 24}) {
            WhalePolo polo = whaleOn(cell);
            refused(9, 2, polo, () -> polo.strike(0, EAST, 1));
        }
    }

    @Holds(says = FROM)
    void aWhaleDoesNotStrikeAcrossTheEndOfARow() {
        WhalePolo polo = twoWhales();
        polo.swim(0, 13);
        polo.strike(0, WEST, 4);
        polo.swim(1, 17);
        due("the buoy", 18, () -> polo.account(5));
        refused(9, 9, polo, () -> polo.strike(1, EAST, 1));
    }

    @Holds(says = FROM)
    void aWhaleStrikesByAForceOfItsStrengthAtMost() {
        for (int strength = 1; strength <= 4; strength++) {
            WhalePolo polo = new WhalePolo();
            polo.whale(0, strength, 4);
            polo.swim(0, 13);
            int force = strength;
            refused(10, force, polo, () -> polo.strike(0, WEST, force + 1));
            due("by its strength", 22 - force, () -> polo.strike(0, WEST, force));
        }
    }

    @Holds(says = "that takes 1 breath")
    void aStrikeTakes1Breath() {
        WhalePolo polo = whaleOn(13);
        polo.strike(0, EAST, 4);
        due(16, () -> polo.whaleOf(0, 3));
    }

    @Holds(says = "that takes 1 breath")
    void aWhaleStrikesByItsLastBreath() {
        WhalePolo polo = lastBreathAtBuoy();
        due("it strikes", 13, () -> polo.strike(0, NORTH, 1));
        due("none is left", 0, () -> polo.whaleOf(0, 3));
        refused(6, 0, polo, () -> polo.strike(0, EAST, 1));
    }

    @Holds(says = "The buoy goes on cell by cell, by as many as the force tells.")
    void theBuoyGoesByAsManyCellsAsTheForceTells() {
        int[] strides = {-9, 1, 9, -1};
        for (int way = 0; way < 4; way++) {
            for (int force = 1; force <= (way % 2 == 0 ? 2 : 4); force++) {
                WhalePolo polo = whaleOn(22);
                int asked = way;
                int cells = force;
                due("way " + way + ", force " + force, 22 + cells * strides[way], () -> polo.strike(0, asked, cells));
                due("no nets", "0 0", () -> netsAndRight(polo));
            }
        }
    }

    // Whales that stop it.

    @Holds(says = STOPS)
    void theBuoyStopsAheadOfAWhale() {
        WhalePolo polo = sixWhales();
        polo.swim(0, 13);
        due("ahead of 25", 24, () -> polo.strike(0, EAST, 5));
        due("no nets", "0 0", () -> netsAndRight(polo));
    }

    @Holds(says = STOPS)
    void theBuoyStopsAheadOfAWhaleOfTheOwnTeam() {
        WhalePolo polo = sixWhales();
        polo.swim(0, 13);
        due("ahead of 19", 20, () -> polo.strike(0, WEST, 5));
        due("no nets", "0 0", () -> netsAndRight(polo));
    }

    @Holds(says = STOPS)
    void theBuoyComesUpToTheCellAheadOfAWhale() {
        WhalePolo polo = sixWhales();
        polo.swim(0, 13);
        due(24, () -> polo.strike(0, EAST, 2));
    }

    @Holds(says = STOPS)
    void theBuoyStopsAtOnceAheadOfAWhaleBesideIt() {
        WhalePolo polo = twoWhales();
        polo.swim(0, 13);
        polo.swim(1, 14);
        polo.swim(1, 23);
        due("the buoy", 22, () -> polo.strike(0, EAST, 3));
        due("no nets", "0 0", () -> netsAndRight(polo));
    }

    @Holds(says = STOPS)
    void aWhaleOnTheCellOfTheBuoyDoesNotStopIt() {
        WhalePolo polo = twoWhales();
        polo.swim(0, 13);
        polo.swim(1, 14);
        polo.swim(1, 22);
        due(24, () -> polo.strike(0, EAST, 2));
    }

    @Holds(says = STOPS)
    void theStrikingWhaleDoesNotStopTheBuoy() {
        WhalePolo polo = whaleOn(23);
        due("onto its cell", 23, () -> polo.strike(0, EAST, 1));
        due("from its cell", 45, () -> polo.strike(0, EAST, 5));
        WhalePolo past = whaleOn(21);
        due("past it", 19, () -> past.strike(0, WEST, 3));
    }

    @Holds(says = STOPS)
    void theBuoyStopsAheadOfASubstitute() {
        WhalePolo polo = tenWhales();
        polo.swim(0, 13);
        polo.swap(1, 6);
        due(20, () -> polo.strike(0, WEST, 5));
    }

    /** The buoy on 22, the whale 0 on 13, the whale 1 stranded on 4; the clock is 7. */
    private static WhalePolo strandedInTheNorth() {
        WhalePolo polo = twoWhales();
        polo.swim(0, 13);
        polo.swim(1, 14);
        polo.swim(1, 4);
        drift(polo, 4);
        return polo;
    }

    @Holds(says = "If the whale is on a dry cell, it stops ahead of it, too.")
    void theBuoyStopsAheadOfAStrandedWhale() {
        WhalePolo polo = strandedInTheNorth();
        due("the buoy", 13, () -> polo.strike(0, NORTH, 2));
        due("it is not in the nets", "0 0", () -> netsAndRight(polo));
    }

    @Holds(says = "If the whale is on a dry cell, it stops ahead of it, too.")
    void theBuoyStopsAtOnceAheadOfAStrandedWhale() {
        WhalePolo polo = strandedInTheNorth();
        polo.strike(0, NORTH, 1);
        due("the buoy", 13, () -> polo.strike(0, NORTH, 5));
        due("it is not in the nets", "0 0", () -> netsAndRight(polo));
    }

    // The nets.

    @Holds(says = NETS)
    void theBuoyIsInTheNetsAheadOfADryCellInTheNorth() {
        WhalePolo polo = whaleOn(13);
        drift(polo, 5);
        due("the buoy", 13, () -> polo.strike(0, NORTH, 2));
        due("in the nets", "1 1", () -> netsAndRight(polo));
    }

    @Holds(says = NETS)
    void theBuoyIsInTheNetsAheadOfADryCellInTheSouth() {
        WhalePolo polo = whaleOn(13);
        drift(polo, 5);
        due("the buoy", 31, () -> polo.strike(0, SOUTH, 5));
        due("in the nets", "1 1", () -> netsAndRight(polo));
    }

    @Holds(says = NETS)
    void theBuoyIsNotInTheNetsUpToADryCell() {
        WhalePolo polo = whaleOn(13);
        drift(polo, 5);
        due("the buoy", 13, () -> polo.strike(0, NORTH, 1));
        due("not in the nets", "0 0", () -> netsAndRight(polo));
    }

    /** The buoy on 4, the whale 0 on 13 beside it; the clock is 2. */
    private static WhalePolo buoyInTheNorth() {
        WhalePolo polo = whaleOn(13);
        polo.strike(0, NORTH, 2);
        return polo;
    }

    @Holds(says = NETS)
    void theBuoyOnADryCellIsInTheNetsAheadOfAnother() {
        for (int way : new int[] {EAST, WEST}) {
            WhalePolo polo = buoyInTheNorth();
            drift(polo, 4);
            due("the buoy", 4, () -> polo.strike(0, way, 2));
            due("in the nets", "1 1", () -> netsAndRight(polo));
        }
    }

    @Holds(says = NETS)
    void theBuoyComesAwayFromADryCell() {
        WhalePolo polo = buoyInTheNorth();
        drift(polo, 4);
        due("the buoy", 22, () -> polo.strike(0, SOUTH, 2));
        due("not in the nets", "0 0", () -> netsAndRight(polo));
    }

    @Holds(says = NETS)
    void theBuoyIsInTheNetsAsItWouldLeaveInTheNorth() {
        WhalePolo polo = whaleOn(13);
        due("the buoy", 4, () -> polo.strike(0, NORTH, 3));
        due("in the nets", "1 1", () -> netsAndRight(polo));
        due("at once", 4, () -> polo.strike(0, NORTH, 1));
        due("in the nets again", "2 1", () -> netsAndRight(polo));
    }

    @Holds(says = NETS)
    void theBuoyIsInTheNetsAsItWouldLeaveInTheSouth() {
        WhalePolo polo = whaleOn(31);
        due("the buoy", 40, () -> polo.strike(0, SOUTH, 3));
        due("in the nets", "1 1", () -> netsAndRight(polo));
    }

    @Holds(says = NETS)
    void theBuoyIsNotInTheNetsUpToTheEdge() {
        WhalePolo polo = whaleOn(31);
        due("the buoy", 40, () -> polo.strike(0, SOUTH, 2));
        due("not in the nets", "0 0", () -> netsAndRight(polo));
    }

    @Holds(says = NETS)
    void theBuoyIsInTheNetsAtTheEndsOfTheRow0() {
        WhalePolo east = buoyInTheNorth();
        east.swim(0, 5);
        east.strike(0, EAST, 3);
        east.swim(0, 6);
        due("in the east", 8, () -> east.strike(0, EAST, 2));
        due("nets in the east", "1 1 0", () -> netsAndRight(east) + " " + east.account(3));
        WhalePolo west = buoyInTheNorth();
        west.swim(0, 3);
        west.strike(0, WEST, 3);
        west.swim(0, 2);
        due("in the west", 0, () -> west.strike(0, WEST, 2));
        due("nets in the west", "1 1 0", () -> netsAndRight(west) + " " + west.account(4));
    }

    @Holds(says = NETS)
    void theBuoyIsInTheNetsAtTheEndsOfTheRow4() {
        WhalePolo east = whaleOn(13);
        east.strike(0, SOUTH, 2);
        east.swim(0, 41);
        east.strike(0, EAST, 3);
        east.swim(0, 42);
        due("in the east", 44, () -> east.strike(0, EAST, 2));
        due("nets in the east", "1 1 0", () -> netsAndRight(east) + " " + east.account(3));
        WhalePolo west = whaleOn(13);
        west.strike(0, SOUTH, 2);
        west.swim(0, 39);
        west.strike(0, WEST, 3);
        west.swim(0, 38);
        due("in the west", 36, () -> west.strike(0, WEST, 2));
        due("nets in the west", "1 1 0", () -> netsAndRight(west) + " " + west.account(4));
    }

    @Holds(says = NETTED)
    void theTeamThatDidNotStrikeHasTheRightByTheNets() {
        WhalePolo polo = twoWhales();
        polo.swim(1, 13);
        due("the buoy", 4, () -> polo.strike(1, NORTH, 5));
        due("the right of team 0", "1 0", () -> netsAndRight(polo));
        WhalePolo other = whaleOn(13);
        other.strike(0, NORTH, 5);
        due("the right of team 1", "1 1", () -> netsAndRight(other));
    }

    @Holds(says = NETTED)
    void theTeamThatHadTheRightLosesItByTheNets() {
        WhalePolo polo = whaleOn(13);
        polo.strike(0, NORTH, 1);
        due("its right", 0, () -> polo.account(6));
        polo.strike(0, NORTH, 5);
        due("the right of the other", 1, () -> polo.account(6));
    }

    @Holds(says = "Otherwise the team that struck has the right.")
    void aStrikeBehindOneInTheNetsIsNotInTheNets() {
        WhalePolo polo = whaleOn(13);
        polo.strike(0, NORTH, 5);
        due("the nets", "1 1", () -> netsAndRight(polo));
        polo.strike(0, SOUTH, 1);
        due("no more of them", "1 0", () -> netsAndRight(polo));
    }

    @Holds(says = "Otherwise the team that struck has the right.")
    void aStrikeBehindAQuestionAboutTheNetsIsNotInTheNets() {
        WhalePolo polo = whaleOn(13);
        polo.would(0, NORTH, 5);
        polo.wouldAgain(0, NORTH, 5);
        polo.strike(0, SOUTH, 1);
        due("no nets", "0 0", () -> netsAndRight(polo));
    }

    // Goals.

    @Holds(says = GOAL)
    void theBuoyLeavesByTheEastEndInTheRows1To3() {
        WhalePolo first = whaleOn(13);
        first.strike(0, NORTH, 1);
        due("row 1", 45, () -> first.strike(0, EAST, 5));
        WhalePolo second = whaleOn(13);
        due("row 2", 45, () -> second.strike(0, EAST, 5));
        WhalePolo third = whaleOn(22);
        third.strike(0, SOUTH, 1);
        due("row 3", 45, () -> third.strike(0, EAST, 5));
    }

    @Holds(says = GOAL)
    void theBuoyLeavesByTheWestEndInTheRows1To3() {
        WhalePolo first = whaleOn(13);
        first.strike(0, NORTH, 1);
        due("row 1", 46, () -> first.strike(0, WEST, 5));
        WhalePolo second = whaleOn(13);
        due("row 2", 46, () -> second.strike(0, WEST, 5));
        WhalePolo third = whaleOn(22);
        third.strike(0, SOUTH, 1);
        due("row 3", 46, () -> third.strike(0, WEST, 5));
    }

    @Holds(says = GOAL)
    void theBuoyDoesNotLeaveUpToAnEnd() {
        WhalePolo polo = whaleOn(13);
        due("in the east", 26, () -> polo.strike(0, EAST, 4));
        due("no goal", "0 0", () -> polo.account(3) + " " + polo.account(4));
        WhalePolo west = whaleOn(13);
        due("in the west", 18, () -> west.strike(0, WEST, 4));
        due("no goal", "0 0", () -> west.account(3) + " " + west.account(4));
    }

    @Holds(says = GOAL)
    void theBuoyLeavesAtOnceFromTheLastCell() {
        WhalePolo polo = whaleOn(13);
        polo.strike(0, EAST, 4);
        polo.swim(0, 17);
        due(45, () -> polo.strike(0, EAST, 1));
    }

    @Holds(says = GOAL)
    void aGoalByTheOtherTeamCountsForTheTeamThatScoresThere() {
        WhalePolo polo = twoWhales();
        polo.swim(1, 13);
        due("by a whale of team 1", 45, () -> polo.strike(1, EAST, 5));
        due("a goal of team 0", "1 0 0", () -> polo.account(3) + " " + polo.account(4) + " " + polo.leader());
    }

    @Holds(says = "then the buoy goes to the cell 22, and no team has the right")
    void theBuoyGoesTo22ByAGoal() {
        for (int way : new int[] {EAST, WEST}) {
            WhalePolo polo = whaleOn(13);
            polo.strike(0, way, 4);
            polo.swim(0, way == EAST ? 17 : 9);
            due("the right ahead of it", 0, () -> polo.account(6));
            polo.strike(0, way, 1);
            due("by the goal", "22 -1 0", () -> polo.account(5) + " " + polo.account(6) + " " + polo.account(11));
        }
    }

    @Holds(says = "Otherwise the team that struck has the right.")
    void theTeamThatStruckHasTheRight() {
        WhalePolo polo = twoWhales();
        polo.swim(0, 13);
        polo.swim(1, 14);
        polo.swim(1, 23);
        polo.strike(0, NORTH, 1);
        due("the team 0", 0, () -> polo.account(6));
        polo.swim(1, 14);
        polo.strike(1, SOUTH, 1);
        due("the team 1", 1, () -> polo.account(6));
    }

    // Fouls.

    private static String fouls(WhalePolo polo) {
        return polo.account(8) + " " + polo.whaleOf(0, 7);
    }

    @Holds(says = FOUL)
    void aStrikeBesideASongOfTheTeamThatHasTheRightIsAFoul() {
        WhalePolo polo = songAtBuoy();
        due("the strike", 30, () -> polo.strike(0, WEST, 1));
        due("a foul", "1 1", () -> fouls(polo));
    }

    @Holds(says = FOUL)
    void aStrikeByASongOnTheCellOfTheBuoyIsAFoul() {
        WhalePolo polo = twoWhales();
        polo.swim(0, 13);
        polo.swim(1, 14);
        polo.swim(1, 23);
        polo.strike(1, WEST, 1);
        polo.swim(1, 21);
        polo.sing(1);
        polo.swim(0, 12);
        polo.strike(0, SOUTH, 1);
        due("a foul", "1 1", () -> fouls(polo));
    }

    @Holds(says = FOUL)
    void aStrikeIsNoFoulIfNoTeamHasTheRight() {
        WhalePolo polo = twoWhales();
        polo.swim(0, 13);
        polo.swim(1, 14);
        polo.swim(1, 23);
        polo.sing(1);
        polo.strike(0, WEST, 1);
        due("no foul", "0 0", () -> fouls(polo));
    }

    @Holds(says = FOUL)
    void aStrikeIsNoFoulIfItsOwnTeamHasTheRight() {
        WhalePolo polo = twoWhales();
        polo.swim(0, 13);
        polo.swim(1, 14);
        polo.swim(1, 32);
        polo.strike(0, SOUTH, 1);
        polo.sing(1);
        polo.swim(0, 22);
        polo.strike(0, WEST, 1);
        due("no foul", "0 0", () -> fouls(polo));
    }

    @Holds(says = FOUL)
    void aStrikeIsNoFoulWithoutASong() {
        WhalePolo polo = songAtBuoy();
        polo.swim(1, 33);
        polo.swim(1, 32);
        polo.strike(0, WEST, 1);
        due("no foul", "0 0", () -> fouls(polo));
    }

    @Holds(says = FOUL)
    void aStrikeIsNoFoulByASongOfItsOwnTeam() {
        WhalePolo polo = songAtBuoy();
        polo.swim(1, 33);
        polo.sing(0);
        polo.strike(0, WEST, 1);
        due("no foul", "0 0", () -> fouls(polo));
    }

    @Holds(says = FOUL)
    void aStrikeIsNoFoulByASongFartherAway() {
        WhalePolo polo = songAtBuoy();
        polo.swim(1, 33);
        polo.sing(1);
        due("the song", 1, () -> polo.whaleOf(1, 5));
        polo.strike(0, WEST, 1);
        due("two columns away", "0 0", () -> fouls(polo));
        WhalePolo corner = songAtBuoy();
        corner.swim(1, 23);
        corner.sing(1);
        corner.strike(0, WEST, 1);
        due("across a corner", "0 0", () -> fouls(corner));
    }

    @Holds(says = FOUL)
    void aSongBesideTheBuoyOnlyAfterTheStrikeMakesNoFoul() {
        WhalePolo polo = songAtBuoy();
        polo.strike(0, WEST, 1);
        polo.swim(0, 21);
        due("back beside the song", 31, () -> polo.strike(0, EAST, 1));
        due("only the first one", "1 1", () -> fouls(polo));
    }

    @Holds(says = FOUL)
    void aSongOfAStrandedWhaleMakesAFoul() {
        WhalePolo polo = twoWhales();
        polo.swim(0, 12);
        polo.swim(1, 14);
        polo.swim(1, 23);
        polo.strike(1, NORTH, 1);
        polo.swim(1, 4);
        polo.drift();
        polo.sing(1);
        due("the strike", 22, () -> polo.strike(0, SOUTH, 1));
        due("a foul", "1 1", () -> fouls(polo));
    }

    @Holds(says = "The buoy goes all the same")
    void theBuoyGoesByAFoul() {
        for (int force = 1; force <= 4; force++) {
            WhalePolo polo = songAtBuoy();
            int cells = force;
            due("by " + force, 31 - force, () -> polo.strike(0, WEST, cells));
            due("it is there", 31 - force, () -> polo.account(5));
        }
    }

    @Holds(says = "The buoy goes all the same")
    void theBuoyStopsAheadOfAWhaleByAFoul() {
        WhalePolo polo = songAtBuoy();
        due("ahead of 32", 31, () -> polo.strike(0, EAST, 5));
        due("a foul", "1 1", () -> fouls(polo));
    }

    @Holds(says = "but if it leaves the field by an end, it is no goal, and the buoy goes to the cell 22")
    void aFoulByTheOtherEndIsNoGoal() {
        WhalePolo polo = songAtBuoy();
        due("the answer", 22, () -> polo.strike(0, WEST, 5));
        due("no goals", "0 0 0", () -> polo.account(3) + " " + polo.account(4) + " " + polo.whaleOf(0, 6));
        due("the buoy", 22, () -> polo.account(5));
        due("no nets", 0, () -> polo.account(11));
    }

    /** The buoy on 31, team 1 has the right, the whale 1 sings on 22, the whale 0 is on 30; the clock is 7. */
    private static WhalePolo songInTheNorth() {
        WhalePolo polo = twoWhales();
        polo.swim(0, 13);
        polo.swim(1, 14);
        polo.swim(1, 23);
        polo.strike(1, SOUTH, 1);
        polo.swim(1, 22);
        polo.sing(1);
        polo.swim(0, 30);
        return polo;
    }

    @Holds(says = "A buoy struck in a foul is no goal.")
    void aFoulByTheOwnEndIsNoGoal() {
        WhalePolo polo = songInTheNorth();
        due("the answer", 22, () -> polo.strike(0, EAST, 5));
        due("no goals", "0 0 0", () -> polo.account(3) + " " + polo.account(4) + " " + polo.whaleOf(0, 6));
        due("the buoy", 22, () -> polo.account(5));
    }

    @Holds(says = KEEPS)
    void theOtherTeamKeepsTheRightByAFoul() {
        WhalePolo polo = songAtBuoy();
        polo.strike(0, WEST, 1);
        due(1, () -> polo.account(6));
    }

    @Holds(says = KEEPS)
    void theOtherTeamKeepsTheRightByAFoulOutOfTheField() {
        WhalePolo polo = songInTheNorth();
        polo.strike(0, EAST, 5);
        due(1, () -> polo.account(6));
    }

    @Holds(says = KEEPS)
    void theOtherTeamKeepsTheRightByAFoulInTheNets() {
        WhalePolo polo = songAtBuoy();
        polo.strike(0, SOUTH, 5);
        due(1, () -> polo.account(6));
    }

    @Holds(says = "A buoy in the nets by a foul is counted as in the nets.")
    void aFoulInTheNetsIsCountedAsBoth() {
        WhalePolo polo = songAtBuoy();
        due("the buoy", 31, () -> polo.strike(0, SOUTH, 1));
        due("the nets", 1, () -> polo.account(11));
        due("the fouls", "1 1", () -> fouls(polo));
    }
}
