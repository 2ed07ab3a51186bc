/** The sentences of the promises 17 to 21: the buoy. */
final class BuoyPromises extends Sentences {

    private static final String WOULD = "Returns where the buoy would be if a whale struck it now, wherever the whale is, and "
        + "whatever its strength and breath: cell by cell.";
    private static final String AGAIN = "Returns the same by a second way: by the nearest thing that stops the buoy.";
    private static final String WAYS = "`way`: 0 for the north, 1 for the east, 2 for the south, 3 for the west";
    private static final String FORCES = "`force`: by how many cells, 1 to 5";
    private static final String NO_WHALE = "Throws `IndexOutOfBoundsException` if there is no such whale";
    private static final String NO_STRIKE = "Throws `IllegalArgumentException` if there is no such way, or the force is out "
        + "of range";
    private static final String BEST = "Returns the strike of a whale that can strike now which is best for its team: a goal "
        + "of it, or else that by which the buoy is the nearest to the end where it scores, but no goal of the other team";
    private static final String OF_SEVERAL = "of several the one with the lowest way, then with the least force";
    private static final String CANNOT = "Throws `NoSuchElementException` if it cannot strike, or all would be goals of the "
        + "other team";
    private static final String BESIDE = "Returns how many whales of a team are beside the buoy, or on its cell.";
    private static final int[] NO_WAYS = {-1, 4, 5, Integer.MIN_VALUE, Integer.MAX_VALUE};
    private static final int[] NO_FORCES = {-1, 0, 6, Integer.MIN_VALUE, Integer.MAX_VALUE};

    /** Where the buoy would be by forces from 1 to 5, in the first way. */
    private static String would(WhalePolo polo, int whale, int way) {
        StringBuilder told = new StringBuilder();
        for (int force = 1; force <= 5; force++) {
            told.append(force == 1 ? "" : " ").append(polo.would(whale, way, force));
        }
        return told.toString();
    }

    /** The same in the second way. */
    private static String wouldAgain(WhalePolo polo, int whale, int way) {
        StringBuilder told = new StringBuilder();
        for (int force = 1; force <= 5; force++) {
            told.append(force == 1 ? "" : " ").append(polo.wouldAgain(whale, way, force));
        }
        return told.toString();
    }

    /** A weak whale far away, and a buoy that has no whale in its way. */
    private static WhalePolo freeBuoy() {
        WhalePolo polo = new WhalePolo();
        polo.whale(0, 1, 1);
        return polo;
    }

    /** The buoy on 4, no whale in its way, the whale 0 on 13; the clock is 2. */
    private static WhalePolo buoyInTheNorth() {
        WhalePolo polo = twoWhales();
        polo.swim(0, 13);
        polo.strike(0, NORTH, 2);
        return polo;
    }

    /** The whale 0 stranded on 4, the whale 1 stranded on 40, the buoy between them on 22; the clock is 6. */
    private static WhalePolo strandedInTheColumn() {
        WhalePolo polo = twoWhales();
        polo.swim(0, 4);
        polo.swim(1, 14);
        polo.swim(1, 40);
        drift(polo, 3);
        return polo;
    }

    /** The buoy on 23, team 1 has the right, the whale 1 sings on 22; the clock is 5. */
    private static WhalePolo songInTheMiddle() {
        WhalePolo polo = twoWhales();
        polo.swim(1, 14);
        polo.swim(1, 22);
        polo.strike(1, EAST, 1);
        polo.sing(1);
        polo.drift();
        return polo;
    }

    // would.

    @Holds(promise = 17, says = WOULD)
    void wouldOfAWhaleFarAwayAndWeak() {
        WhalePolo polo = freeBuoy();
        due("to the north", "13 4 4 4 4", () -> would(polo, 0, NORTH));
        due("to the east", "23 24 25 26 45", () -> would(polo, 0, EAST));
        due("to the south", "31 40 40 40 40", () -> would(polo, 0, SOUTH));
        due("to the west", "21 20 19 18 46", () -> would(polo, 0, WEST));
    }

    @Holds(promise = 17, says = WOULD)
    void wouldOfAWhaleOnTheBench() {
        WhalePolo polo = tenWhales();
        due("ahead of 25", "23 24 24 24 24", () -> would(polo, 9, EAST));
    }

    @Holds(promise = 17, says = WOULD)
    void wouldOfAWhaleWithoutBreath() {
        WhalePolo polo = withBreath(0);
        due("to the east", "23 24 25 26 45", () -> would(polo, 0, EAST));
    }

    @Holds(promise = 17, says = WOULD)
    void wouldOnceTheGameIsOver() {
        WhalePolo polo = freeBuoy();
        drift(polo, 48);
        due("to the south", "31 40 40 40 40", () -> would(polo, 0, SOUTH));
    }

    @Holds(promise = 17, says = WOULD)
    void wouldStopsAheadOfWhalesButNotOfTheStrikingOne() {
        WhalePolo polo = sixWhales();
        due("ahead of 19", "21 20 20 20 20", () -> would(polo, 0, WEST));
        due("past itself", "21 20 19 18 46", () -> would(polo, 1, WEST));
        due("past itself in the east", "23 24 25 26 45", () -> would(polo, 4, EAST));
    }

    @Holds(promise = 17, says = WOULD)
    void wouldStopsAheadOfDryCells() {
        WhalePolo polo = freeBuoy();
        drift(polo, 6);
        due("in the north", "13 13 13 13 13", () -> would(polo, 0, NORTH));
        due("in the south", "31 31 31 31 31", () -> would(polo, 0, SOUTH));
    }

    @Holds(promise = 17, says = WOULD)
    void wouldStopsAheadOfStrandedWhales() {
        WhalePolo polo = strandedInTheColumn();
        due("in the north", "13 13 13 13 13", () -> would(polo, 1, NORTH));
        due("in the south", "31 31 31 31 31", () -> would(polo, 0, SOUTH));
        due("of itself, too, as its cell is dry", "13 13 13 13 13", () -> would(polo, 0, NORTH));
    }

    @Holds(promise = 17, says = WOULD)
    void wouldOfABuoyOnTheEdge() {
        WhalePolo polo = buoyInTheNorth();
        due("to the north", "4 4 4 4 4", () -> would(polo, 0, NORTH));
        due("no goal in the east", "5 6 7 8 8", () -> would(polo, 0, EAST));
        due("no goal in the west", "3 2 1 0 0", () -> would(polo, 0, WEST));
        drift(polo, 4);
        due("dry, to the north", "4 4 4 4 4", () -> would(polo, 0, NORTH));
        due("dry, to the east", "4 4 4 4 4", () -> would(polo, 0, EAST));
        due("dry, to the south", "13 22 31 31 31", () -> would(polo, 0, SOUTH));
    }

    @Holds(promise = 17, says = "Returns as strike.")
    void wouldOfAFoulByAnEndIs22() {
        WhalePolo polo = songAtBuoy();
        due("a foul", "30 29 28 27 22", () -> would(polo, 0, WEST));
        due("no foul", "30 29 28 27 46", () -> would(polo, 1, WEST));
        WhalePolo east = songInTheMiddle();
        due("a foul in the east", "24 25 26 22 22", () -> would(east, 0, EAST));
    }

    @Holds(promise = 17, says = "Returns as strike.")
    void wouldIsWhatStrikeReturns() {
        for (int way = 0; way < 4; way++) {
            for (int force = 1; force <= 5; force++) {
                int asked = way;
                int cells = force;
                WhalePolo polo = songAtBuoy();
                int due = polo.would(0, way, force);
                due("way " + way + ", force " + force, due, () -> polo.strike(0, asked, cells));
            }
        }
    }

    @Holds(promise = 17, says = WAYS)
    void wouldHasTheWays0To3() {
        WhalePolo polo = freeBuoy();
        due("13 23 31 21", () -> polo.would(0, 0, 1) + " " + polo.would(0, 1, 1) + " " + polo.would(0, 2, 1) + " "
            + polo.would(0, 3, 1));
    }

    @Holds(promise = 17, says = FORCES)
    void wouldHasTheForces1To5() {
        WhalePolo polo = freeBuoy();
        due("the least", 23, () -> polo.would(0, EAST, 1));
        due("the greatest", 45, () -> polo.would(0, EAST, 5));
        argument("too small", () -> polo.would(0, EAST, 0));
        argument("too large", () -> polo.would(0, EAST, 6));
    }

    @Holds(promise = 17, says = NO_WHALE)
    void wouldOfNoWhale() {
        WhalePolo polo = tenWhales();
        for (int wrong : noWhales(10)) {
            index("the whale " + wrong, () -> polo.would(wrong, EAST, 1));
        }
        index("without whales", () -> new WhalePolo().would(0, EAST, 1));
    }

    @Holds(promise = 17, says = NO_STRIKE)
    void wouldByNoWayOrForce() {
        WhalePolo polo = twoWhales();
        for (int wrong : NO_WAYS) {
            argument("the way " + wrong, () -> polo.would(0, wrong, 1));
        }
        for (int wrong : NO_FORCES) {
            argument("the force " + wrong, () -> polo.would(0, EAST, wrong));
        }
    }

    // wouldAgain.

    @Holds(promise = 18, says = AGAIN)
    void wouldAgainOfAWhaleFarAwayAndWeak() {
        WhalePolo polo = freeBuoy();
        due("to the north", "13 4 4 4 4", () -> wouldAgain(polo, 0, NORTH));
        due("to the east", "23 24 25 26 45", () -> wouldAgain(polo, 0, EAST));
        due("to the south", "31 40 40 40 40", () -> wouldAgain(polo, 0, SOUTH));
        due("to the west", "21 20 19 18 46", () -> wouldAgain(polo, 0, WEST));
    }

    @Holds(promise = 18, says = AGAIN)
    void wouldAgainStopsByTheNearestWhale() {
        WhalePolo polo = tenWhales();
        due("ahead of 25", "23 24 24 24 24", () -> wouldAgain(polo, 9, EAST));
        due("ahead of 19", "21 20 20 20 20", () -> wouldAgain(polo, 0, WEST));
        due("past itself", "21 20 19 18 46", () -> wouldAgain(polo, 1, WEST));
        due("past itself in the east", "23 24 25 26 45", () -> wouldAgain(polo, 4, EAST));
        polo.swim(5, 33);
        polo.swim(5, 23);
        due("ahead of the nearer one", "22 22 22 22 22", () -> wouldAgain(polo, 0, EAST));
        due("past the nearer one, the striking one", "23 24 24 24 24", () -> wouldAgain(polo, 5, EAST));
    }

    @Holds(promise = 18, says = AGAIN)
    void wouldAgainStopsByTheNearestDryCell() {
        WhalePolo polo = freeBuoy();
        drift(polo, 6);
        due("in the north", "13 13 13 13 13", () -> wouldAgain(polo, 0, NORTH));
        due("in the south", "31 31 31 31 31", () -> wouldAgain(polo, 0, SOUTH));
        due("none in the east", "23 24 25 26 45", () -> wouldAgain(polo, 0, EAST));
    }

    @Holds(promise = 18, says = AGAIN)
    void wouldAgainStopsAheadOfStrandedWhales() {
        WhalePolo polo = strandedInTheColumn();
        due("in the north", "13 13 13 13 13", () -> wouldAgain(polo, 1, NORTH));
        due("in the south", "31 31 31 31 31", () -> wouldAgain(polo, 0, SOUTH));
        due("of itself, too, as its cell is dry", "13 13 13 13 13", () -> wouldAgain(polo, 0, NORTH));
    }

    @Holds(promise = 18, says = AGAIN)
    void wouldAgainOfABuoyOnTheEdge() {
        WhalePolo polo = buoyInTheNorth();
        due("to the north", "4 4 4 4 4", () -> wouldAgain(polo, 0, NORTH));
        due("no goal in the east", "5 6 7 8 8", () -> wouldAgain(polo, 0, EAST));
        due("no goal in the west", "3 2 1 0 0", () -> wouldAgain(polo, 0, WEST));
        drift(polo, 4);
        due("dry, to the north", "4 4 4 4 4", () -> wouldAgain(polo, 0, NORTH));
        due("dry, to the east", "4 4 4 4 4", () -> wouldAgain(polo, 0, EAST));
        due("dry, to the south", "13 22 31 31 31", () -> wouldAgain(polo, 0, SOUTH));
    }

    @Holds(promise = 18, says = "Returns as strike.")
    void wouldAgainOfAFoulByAnEndIs22() {
        WhalePolo polo = songAtBuoy();
        due("a foul", "30 29 28 27 22", () -> wouldAgain(polo, 0, WEST));
        due("no foul", "30 29 28 27 46", () -> wouldAgain(polo, 1, WEST));
        WhalePolo east = songInTheMiddle();
        due("a foul in the east", "24 25 26 22 22", () -> wouldAgain(east, 0, EAST));
    }

    @Holds(promise = 18, says = "Returns as strike.")
    void wouldAgainIsWhatStrikeReturns() {
        for (int way = 0; way < 4; way++) {
            for (int force = 1; force <= 5; force++) {
                int asked = way;
                int cells = force;
                WhalePolo polo = songAtBuoy();
                int due = polo.wouldAgain(0, way, force);
                due("way " + way + ", force " + force, due, () -> polo.strike(0, asked, cells));
            }
        }
    }

    @Holds(promise = 18, says = WAYS)
    void wouldAgainHasTheWays0To3() {
        WhalePolo polo = freeBuoy();
        due("13 23 31 21", () -> polo.wouldAgain(0, 0, 1) + " " + polo.wouldAgain(0, 1, 1) + " "
            + polo.wouldAgain(0, 2, 1) + " " + polo.wouldAgain(0, 3, 1));
    }

    @Holds(promise = 18, says = FORCES)
    void wouldAgainHasTheForces1To5() {
        WhalePolo polo = freeBuoy();
        due("the least", 23, () -> polo.wouldAgain(0, EAST, 1));
        due("the greatest", 45, () -> polo.wouldAgain(0, EAST, 5));
        argument("too small", () -> polo.wouldAgain(0, EAST, 0));
        argument("too large", () -> polo.wouldAgain(0, EAST, 6));
    }

    @Holds(promise = 18, says = NO_WHALE)
    void wouldAgainOfNoWhale() {
        WhalePolo polo = tenWhales();
        for (int wrong : noWhales(10)) {
            index("the whale " + wrong, () -> polo.wouldAgain(wrong, EAST, 1));
        }
        index("without whales", () -> new WhalePolo().wouldAgain(0, EAST, 1));
    }

    @Holds(promise = 18, says = NO_STRIKE)
    void wouldAgainByNoWayOrForce() {
        WhalePolo polo = twoWhales();
        for (int wrong : NO_WAYS) {
            argument("the way " + wrong, () -> polo.wouldAgain(0, wrong, 1));
        }
        for (int wrong : NO_FORCES) {
            argument("the force " + wrong, () -> polo.wouldAgain(0, EAST, wrong));
        }
    }

    // wouldFoul.

    @Holds(promise = 19, says = "Tells whether a strike of a whale would be a foul now.")
    void aStrikeWouldBeAFoul() {
        WhalePolo polo = songAtBuoy();
        due("of team 0", true, () -> polo.wouldFoul(0));
        due("of team 1", false, () -> polo.wouldFoul(1));
    }

    @Holds(promise = 19, says = "Tells whether a strike of a whale would be a foul now.")
    void aStrikeWouldBeNoFoulWithoutRightOrSong() {
        WhalePolo polo = twoWhales();
        polo.swim(1, 14);
        polo.swim(1, 23);
        due("no right, no song", false, () -> polo.wouldFoul(0));
        polo.sing(1);
        due("no right", false, () -> polo.wouldFoul(0));
        polo.strike(1, WEST, 1);
        due("a song farther away", false, () -> polo.wouldFoul(0));
        polo.swim(1, 22);
        due("no song", false, () -> polo.wouldFoul(0));
        polo.sing(1);
        due("both", true, () -> polo.wouldFoul(0));
    }

    @Holds(promise = 19, says = "Tells whether a strike of a whale would be a foul now.")
    void aStrikeWouldBeNoFoulInTheNextChukka() {
        WhalePolo polo = songAtBuoy();
        drift(polo, 4);
        due("ahead of the end", true, () -> polo.wouldFoul(0));
        polo.drift();
        due("by the end", false, () -> polo.wouldFoul(0));
    }

    @Holds(promise = 19, says = NO_WHALE)
    void wouldFoulOfNoWhale() {
        WhalePolo polo = tenWhales();
        for (int wrong : noWhales(10)) {
            index("the whale " + wrong, () -> polo.wouldFoul(wrong));
        }
        index("without whales", () -> new WhalePolo().wouldFoul(0));
    }

    // best.

    @Holds(promise = 20, says = BEST)
    void theBestIsAGoal() {
        WhalePolo polo = twoWhales();
        polo.swim(0, 13);
        polo.swim(1, 14);
        polo.swim(1, 31);
        due("in the east for team 0", 15, () -> polo.best(0));
        due("in the west for team 1", 35, () -> polo.best(1));
    }

    @Holds(promise = 20, says = BEST)
    void theBestIsTheNearestToTheEnd() {
        WhalePolo polo = new WhalePolo();
        polo.whale(0, 4, 4);
        polo.whale(1, 3, 4);
        polo.swim(0, 13);
        polo.swim(1, 14);
        polo.swim(1, 31);
        due("in the east for team 0", 14, () -> polo.best(0));
        due("in the west for team 1", 33, () -> polo.best(1));
    }

    @Holds(promise = 20, says = BEST)
    void theBestIsNoGoalOfTeam1ForTeam0() {
        WhalePolo polo = twoWhales();
        polo.swim(0, 13);
        polo.strike(0, WEST, 4);
        polo.swim(0, 9);
        due("away from the own end", 15, () -> polo.best(0));
        polo.swim(1, 14);
        polo.swim(1, 20);
        polo.swim(1, 19);
        due("along the own end", 1, () -> polo.best(0));
    }

    @Holds(promise = 20, says = BEST)
    void theBestIsNoGoalOfTeam0ForTeam1() {
        WhalePolo polo = twoWhales();
        polo.swim(1, 13);
        polo.strike(1, EAST, 4);
        polo.swim(1, 17);
        due("away from the own end", 35, () -> polo.best(1));
        polo.swim(0, 14);
        polo.swim(0, 25);
        due("along the own end", 1, () -> polo.best(1));
    }

    @Holds(promise = 20, says = BEST)
    void aFoulByTheEndIsNoBestGoal() {
        WhalePolo polo = songInTheMiddle();
        polo.swim(0, 14);
        due("a foul ahead of the end", 13, () -> polo.best(0));
    }

    @Holds(promise = 20, says = OF_SEVERAL)
    void theBestHasTheLowestWay() {
        WhalePolo polo = twoWhales();
        polo.swim(0, 13);
        polo.swim(1, 14);
        polo.swim(1, 23);
        due("to the north, as near as to the south", 1, () -> polo.best(0));
    }

    @Holds(promise = 20, says = OF_SEVERAL)
    void theBestHasTheLeastForce() {
        WhalePolo polo = twoWhales();
        polo.swim(0, 13);
        polo.swim(1, 25);
        due("ahead of the whale 1", 12, () -> polo.best(0));
        WhalePolo goal = twoWhales();
        goal.swim(0, 13);
        goal.strike(0, EAST, 2);
        goal.swim(0, 24);
        due("two forces by the end", 13, () -> goal.best(0));
    }

    @Holds(promise = 20, says = "Returns 10 times the way, and the force.")
    void theBestTellsWayAndForce() {
        WhalePolo polo = new WhalePolo();
        polo.whale(1, 1, 4);
        polo.swim(0, 13);
        due(31, () -> polo.best(0));
    }

    @Holds(promise = 20, says = NO_WHALE)
    void bestOfNoWhale() {
        WhalePolo polo = tenWhales();
        for (int wrong : noWhales(10)) {
            index("the whale " + wrong, () -> polo.best(wrong));
        }
        index("without whales", () -> new WhalePolo().best(0));
    }

    @Holds(promise = 20, says = CANNOT)
    void noBestOfAWhaleTooFarAway() {
        WhalePolo polo = twoWhales();
        polo.swim(0, 12);
        none(() -> polo.best(0));
        none(() -> polo.reason(0));
    }

    @Holds(promise = 20, says = CANNOT)
    void noBestOnTheBench() {
        WhalePolo polo = tenWhales();
        polo.swim(0, 13);
        polo.swap(0, 6);
        none(() -> polo.best(0));
        due("of the substitute", 12, () -> polo.best(6));
    }

    @Holds(promise = 20, says = CANNOT)
    void noBestStranded() {
        WhalePolo polo = buoyInTheNorth();
        polo.swim(0, 4);
        drift(polo, 2);
        due("at the tide 3", 14, () -> polo.best(0));
        polo.drift();
        none(() -> polo.best(0));
    }

    @Holds(promise = 20, says = CANNOT)
    void noBestWithoutBreath() {
        WhalePolo polo = tiredAtBuoy();
        none(() -> polo.best(0));
        WhalePolo last = lastBreathAtBuoy();
        due("by the last breath", 13, () -> last.best(0));
    }

    @Holds(promise = 20, says = CANNOT)
    void noBestOnceTheGameIsOver() {
        WhalePolo polo = twoWhales();
        polo.swim(0, 13);
        drift(polo, 46);
        due("not ahead of it", 15, () -> polo.best(0));
        polo.drift();
        none(() -> polo.best(0));
    }

    // beside.

    @Holds(promise = 21, says = BESIDE)
    void noneIsBesideTheBuoy() {
        WhalePolo polo = tenWhales();
        due("0 0", () -> polo.beside(0) + " " + polo.beside(1));
        due("without whales", "0 0", () -> new WhalePolo().beside(0) + " " + new WhalePolo().beside(1));
    }

    @Holds(promise = 21, says = BESIDE)
    void oneOnItsCellAndTwoBesideIt() {
        WhalePolo polo = sixWhales();
        polo.swim(0, 13);
        polo.swim(1, 22);
        polo.swim(2, 31);
        polo.swim(4, 23);
        due("3 1", () -> polo.beside(0) + " " + polo.beside(1));
    }

    @Holds(promise = 21, says = BESIDE)
    void noneAcrossACornerOrTwoCellsAway() {
        WhalePolo polo = sixWhales();
        polo.swim(0, 12);
        polo.swim(1, 20);
        polo.swim(2, 30);
        polo.swim(3, 14);
        polo.swim(4, 24);
        polo.swim(5, 32);
        due("0 0", () -> polo.beside(0) + " " + polo.beside(1));
    }

    @Holds(promise = 21, says = BESIDE)
    void noneAcrossTheEndOfARow() {
        WhalePolo polo = twoWhales();
        polo.swim(0, 13);
        polo.strike(0, WEST, 4);
        polo.swim(1, 17);
        due("0 0", () -> polo.beside(0) + " " + polo.beside(1));
    }

    @Holds(promise = 21, says = BESIDE)
    void noneThatHasNotComeIsBesideTheBuoyInTheWest() {
        WhalePolo polo = twoWhales();
        polo.swim(0, 13);
        polo.strike(0, NORTH, 1);
        polo.strike(0, WEST, 4);
        due("the buoy", 9, () -> polo.account(5));
        due("0 0", () -> polo.beside(0) + " " + polo.beside(1));
    }

    @Holds(promise = 21, says = "Throws `IllegalArgumentException` if there is no such team")
    void besideOfNoTeam() {
        WhalePolo polo = tenWhales();
        for (int wrong : new int[] {-1, 2, 3, Integer.MIN_VALUE, Integer.MAX_VALUE}) {
            argument("the team " + wrong, () -> polo.beside(wrong));
        }
    }
}
