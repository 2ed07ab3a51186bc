/** The sentences of the terms about whales. */
final class WhaleTerms extends Sentences {

    private static final String SWIMS = "A whale swims from cell to cell beside it, not by dry ones, nor by those on "
        + "which other whales are";
    private static final String STEPS = "it swims as many steps as its speed at most, by the fewest that there are, "
        + "and each takes 1 breath";
    private static final String FIRST = "The first three of a team come into play at once, on the cells 10, 19 and 28 "
        + "for the team 0, and 16, 25 and 34 for the team 1";

    @Holds(says = "Each team has at most 5 whales")
    void aTeamHasAFifthWhale() {
        for (int team = 0; team < 2; team++) {
            WhalePolo polo = new WhalePolo();
            int asked = team;
            for (int whale = 0; whale < 5; whale++) {
                due("team " + team, whale, () -> polo.whale(asked, 1, 1));
            }
        }
    }

    @Holds(says = "Each team has at most 5 whales")
    void aTeamHasNoSixthWhale() {
        WhalePolo polo = tenWhales();
        refused(1, 5, polo, () -> polo.whale(0, 1, 1));
        refused(1, 5, polo, () -> polo.whale(1, 1, 1));
    }

    @Holds(says = "Each team has at most 5 whales")
    void aFullTeamDoesNotHinderTheOther() {
        WhalePolo polo = new WhalePolo();
        for (int whale = 0; whale < 5; whale++) {
            polo.whale(1, 1, 1);
        }
        due(5, () -> polo.whale(0, 1, 1));
    }

    @Holds(says = "all are numbered from 0 as they come")
    void whalesOfBothTeamsAreNumberedTogether() {
        WhalePolo polo = new WhalePolo();
        for (int whale = 0; whale < 10; whale++) {
            int team = whale % 2;
            due(whale, () -> polo.whale(team, 1, 1));
        }
    }

    @Holds(says = FIRST)
    void theFirstThreeOfTeam0ComeOn10And19And28() {
        WhalePolo polo = tenWhales();
        due("10 19 28", () -> polo.whaleOf(0, 4) + " " + polo.whaleOf(1, 4) + " " + polo.whaleOf(2, 4));
    }

    @Holds(says = FIRST)
    void theFirstThreeOfTeam1ComeOn16And25And34() {
        WhalePolo polo = tenWhales();
        due("16 25 34", () -> polo.whaleOf(3, 4) + " " + polo.whaleOf(4, 4) + " " + polo.whaleOf(5, 4));
    }

    @Holds(says = "others are calves on the bench")
    void theFourthAndTheFifthAreCalves() {
        WhalePolo polo = tenWhales();
        for (int whale = 6; whale < 10; whale++) {
            int calf = whale;
            due("whale " + calf, -1, () -> polo.whaleOf(calf, 4));
        }
        due("in play", 6, () -> polo.account(10));
    }

    @Holds(says = "A whale has 20 breath at first.")
    void aWhaleHas20BreathAtFirst() {
        WhalePolo polo = tenWhales();
        for (int whale = 0; whale < 10; whale++) {
            int asked = whale;
            due("whale " + asked, 20, () -> polo.whaleOf(asked, 3));
        }
    }

    @Holds(says = SWIMS)
    void aStepGoesToACellBeside() {
        for (int cell : new int[] {1, 9, 11, 19}) {
            WhalePolo polo = new WhalePolo();
            polo.whale(0, 1, 1);
            due("to " + cell, 1, () -> polo.swim(0, cell));
        }
        for (int cell : new int[] {0, 2, 18, 20}) {
            WhalePolo polo = new WhalePolo();
            polo.whale(0, 1, 1);
            refused(5, 2, polo, () -> polo.swim(0, cell));
        }
    }

    /** The whales 1 and 2 are on 19 and 11, so that the near way for the whale 0 from 10 to 12 is by the row 0. */
    private static WhalePolo wayByTheEdge() {
        WhalePolo polo = sixWhales();
        polo.swim(2, 11);
        return polo;
    }

    @Holds(says = SWIMS)
    void aWhaleSwimsByTheEdgeWhileItIsWet() {
        WhalePolo polo = wayByTheEdge();
        drift(polo, 4);
        due(4, () -> polo.swim(0, 12));
    }

    @Holds(says = SWIMS)
    void aWhaleSwimsNotByDryCells() {
        WhalePolo polo = wayByTheEdge();
        drift(polo, 5);
        refused(5, 8, polo, () -> polo.swim(0, 12));
    }

    @Holds(says = SWIMS)
    void aWhaleSwimsNotByOtherWhales() {
        WhalePolo polo = new WhalePolo();
        polo.whale(0, 1, 4);
        polo.whale(0, 1, 4);
        due(4, () -> polo.swim(0, 28));
    }

    @Holds(says = SWIMS)
    void aWhaleSwimsNotByWhalesOfTheOtherTeam() {
        WhalePolo polo = twoWhales();
        polo.swim(1, 12);
        polo.swim(1, 11);
        due(4, () -> polo.swim(0, 12));
    }

    @Holds(says = SWIMS)
    void aWhaleSwimsByTheBuoy() {
        WhalePolo polo = sixWhales();
        polo.swim(1, 21);
        due(2, () -> polo.swim(1, 23));
    }

    @Holds(says = STEPS)
    void aWhaleSwimsAsManyStepsAsItsSpeed() {
        for (int speed = 1; speed <= 4; speed++) {
            WhalePolo polo = new WhalePolo();
            polo.whale(0, 1, speed);
            int steps = speed;
            refused(5, steps + 1, polo, () -> polo.swim(0, 11 + steps));
            due("speed " + steps, steps, () -> polo.swim(0, 10 + steps));
        }
    }

    @Holds(says = STEPS)
    void eachStepTakes1Breath() {
        for (int steps = 1; steps <= 4; steps++) {
            WhalePolo polo = withBreath(20);
            polo.swim(0, 10 + steps);
            due(steps + " steps", 20 - steps, () -> polo.whaleOf(0, 3));
        }
    }

    @Holds(says = STEPS)
    void aWhaleSwimsByTheFewestSteps() {
        WhalePolo polo = sixWhales();
        due("past the whale 1", 2, () -> polo.swim(0, 20));
        due("its breath", 18, () -> polo.whaleOf(0, 3));
    }

    @Holds(says = STEPS)
    void aWhaleSwimsWithAllItsBreath() {
        WhalePolo polo = withBreath(4);
        int cell = polo.whaleOf(0, 4) == 10 ? 14 : 10;
        due("all", 4, () -> polo.swim(0, cell));
        due("none is left", 0, () -> polo.whaleOf(0, 3));
    }

    @Holds(says = "If it sang, it sings no more as it swims.")
    void aSongEndsByASwim() {
        WhalePolo polo = twoWhales();
        polo.sing(0);
        polo.sing(1);
        polo.swim(0, 11);
        due("it sings no more", 0, () -> polo.whaleOf(0, 5));
        due("the other one sings on", 1, () -> polo.whaleOf(1, 5));
        due("it can sing again", 17, () -> polo.sing(0));
    }

    @Holds(says = "If it sang, it sings no more as it swims.")
    void aSongDoesNotEndByARefusedSwim() {
        WhalePolo polo = twoWhales();
        polo.sing(0);
        refused(7, 1, polo, () -> polo.swim(0, 16));
        due("it sings", 1, () -> polo.whaleOf(0, 5));
    }
}
