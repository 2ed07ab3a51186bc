/** The sentences of the terms about refusals: the reasons, their details, and their order. */
final class RefusalTerms extends Sentences {

    private static final String ORDER = "Something is refused for the first of the reasons that apply, in the order in "
        + "which its method names them";
    private static final String TOO_FAR = "5, it cannot swim so far by a stroke: the fewest steps, or -1 if it cannot come "
        + "there at all";
    private static final String FEW_BREATH = "6, there is too little breath: how much";
    private static final String MADE_2 = "14, the team made 2 substitutions in this chukka: how many so far in the game";

    /** Six whales, the calves 6 of team 0 and 7 of team 1; the game is over. */
    private static WhalePolo overWithCalves() {
        WhalePolo polo = sixWhales();
        polo.whale(0, 1, 1);
        polo.whale(1, 1, 1);
        drift(polo, 48);
        return polo;
    }

    /** The whale 0 stranded on 1, the whale 1 on 10; the clock is 6. */
    private static WhalePolo strandedWhale() {
        WhalePolo polo = sixWhales();
        polo.swim(0, 1);
        polo.swim(1, 10);
        drift(polo, 4);
        return polo;
    }

    // The reasons and their details.

    @Holds(says = "1, the team has 5 whales: this number")
    void reason1TellsHowManyWhales() {
        WhalePolo polo = tenWhales();
        refused(1, 5, polo, () -> polo.whale(1, 5, 4));
    }

    @Holds(says = "2, the game is over: the clock")
    void reason2TellsTheClock() {
        WhalePolo polo = overWithCalves();
        refused(2, 48, polo, polo::drift);
        refused(2, 48, polo, () -> polo.swim(0, 11));
        refused(2, 48, polo, () -> polo.strike(0, EAST, 1));
        refused(2, 48, polo, () -> polo.sing(0));
        refused(2, 48, polo, () -> polo.swap(0, 6));
    }

    @Holds(says = "3, the whale is on the bench: the whale")
    void reason3TellsTheWhale() {
        WhalePolo polo = tenWhales();
        refused(3, 6, polo, () -> polo.swim(6, 11));
        refused(3, 7, polo, () -> polo.strike(7, EAST, 1));
        refused(3, 8, polo, () -> polo.sing(8));
        refused(3, 9, polo, () -> polo.swap(9, 8));
        polo.swap(0, 6);
        refused(3, 0, polo, () -> polo.sing(0));
    }

    @Holds(says = "4, it is stranded: its cell")
    void reason4TellsTheCell() {
        WhalePolo polo = sixWhales();
        polo.swim(0, 0);
        polo.swim(5, 44);
        drift(polo, 4);
        refused(4, 0, polo, () -> polo.swim(0, 9));
        refused(4, 44, polo, () -> polo.swim(5, 35));
        refused(4, 0, polo, () -> polo.strike(0, EAST, 1));
    }

    @Holds(says = TOO_FAR)
    void reason5TellsTheFewestSteps() {
        WhalePolo polo = sixWhales();
        refused(5, 5, polo, () -> polo.swim(0, 15));
        refused(5, 10, polo, () -> polo.swim(0, 44));
        WhalePolo slow = new WhalePolo();
        slow.whale(0, 1, 1);
        refused(5, 2, slow, () -> slow.swim(0, 12));
    }

    @Holds(says = TOO_FAR)
    void reason5TellsTheWayAroundOtherWhales() {
        WhalePolo polo = new WhalePolo();
        polo.whale(0, 1, 3);
        polo.whale(0, 1, 3);
        refused(5, 4, polo, () -> polo.swim(0, 28));
    }

    @Holds(says = TOO_FAR)
    void reason5TellsMinus1IfTheWhaleCannotComeThere() {
        WhalePolo polo = sixWhales();
        polo.swim(0, 9);
        polo.swim(1, 10);
        polo.swim(2, 18);
        drift(polo, 3);
        refused(5, -1, polo, () -> polo.swim(0, 11));
    }

    @Holds(says = FEW_BREATH)
    void reason6TellsHowMuchBreathThereIs() {
        for (int breath = 0; breath < 4; breath++) {
            WhalePolo polo = withBreath(breath);
            int cell = polo.whaleOf(0, 4);
            refused(6, breath, polo, () -> polo.swim(0, cell + 20));
        }
    }

    @Holds(says = FEW_BREATH)
    void reason6OfAStrikeAndASongTells0() {
        WhalePolo polo = withBreath(2);
        polo.swim(0, 22);
        refused(6, 0, polo, () -> polo.strike(0, EAST, 1));
        refused(6, 0, polo, () -> polo.sing(0));
    }

    @Holds(says = "7, the cell is taken: by which whale")
    void reason7TellsTheWhale() {
        WhalePolo polo = sixWhales();
        refused(7, 1, polo, () -> polo.swim(0, 19));
        refused(7, 5, polo, () -> polo.swim(0, 34));
        refused(7, 0, polo, () -> polo.swim(0, 10));
        refused(7, 0, polo, () -> polo.swim(3, 10));
    }

    @Holds(says = "7, the cell is taken: by which whale")
    void reason7OfAWhaleThatComesTellsTheOther() {
        WhalePolo polo = new WhalePolo();
        polo.whale(1, 1, 4);
        polo.swim(0, 14);
        polo.swim(0, 10);
        refused(7, 0, polo, () -> polo.whale(0, 1, 1));
        due("the other team can", 1, () -> polo.whale(1, 1, 1));
    }

    @Holds(says = "8, the cell is dry: the tide")
    void reason8TellsTheTide() {
        int[] tides = {2, 1, 0, 1, 2};
        WhalePolo polo = sixWhales();
        drift(polo, 6);
        for (int tide : tides) {
            refused(8, tide, polo, () -> polo.swim(0, 1));
            polo.drift();
        }
        due("not at the tide 3", 1, () -> polo.swim(0, 1));
    }

    @Holds(says = "9, the buoy is too far: how many rows and columns are between, added")
    void reason9TellsTheRowsAndColumns() {
        WhalePolo polo = sixWhales();
        int[] far = {4, 3, 4, 4, 3, 4};
        for (int whale = 0; whale < 6; whale++) {
            int asked = whale;
            refused(9, far[whale], polo, () -> polo.strike(asked, EAST, 1));
        }
        polo.swim(1, 18);
        polo.swim(1, 0);
        refused(9, 6, polo, () -> polo.strike(1, EAST, 1));
    }

    @Holds(says = "10, the whale is not strong enough: its strength")
    void reason10TellsTheStrength() {
        for (int strength = 1; strength < 5; strength++) {
            WhalePolo polo = new WhalePolo();
            polo.whale(0, strength, 4);
            polo.swim(0, 13);
            refused(10, strength, polo, () -> polo.strike(0, EAST, 5));
        }
    }

    @Holds(says = "11, it sings already: the whale")
    void reason11TellsTheWhale() {
        WhalePolo polo = sixWhales();
        polo.sing(4);
        refused(11, 4, polo, () -> polo.sing(4));
    }

    @Holds(says = "12, both are not of one team: the team of the calf")
    void reason12TellsTheTeamOfTheCalf() {
        WhalePolo polo = tenWhales();
        refused(12, 1, polo, () -> polo.swap(0, 8));
        refused(12, 0, polo, () -> polo.swap(3, 6));
    }

    @Holds(says = "13, the calf is in play: its cell")
    void reason13TellsTheCell() {
        WhalePolo polo = sixWhales();
        refused(13, 28, polo, () -> polo.swap(0, 2));
        refused(13, 10, polo, () -> polo.swap(0, 0));
        refused(13, 16, polo, () -> polo.swap(5, 3));
    }

    @Holds(says = MADE_2)
    void reason14TellsHowManySubstitutionsSoFar() {
        WhalePolo polo = tenWhales();
        for (int chukka = 0; chukka < 4; chukka++) {
            polo.swap(0, 6);
            polo.swap(6, 0);
            refused(14, 2 * chukka + 2, polo, () -> polo.swap(0, 6));
            drift(polo, 10);
        }
    }

    @Holds(says = MADE_2)
    void reason14IsNotForOneSubstitution() {
        WhalePolo polo = tenWhales();
        polo.swap(0, 6);
        polo.swap(3, 8);
        due("the team 0", 0, () -> polo.swap(1, 7));
        due("the team 1", 0, () -> polo.swap(4, 9));
    }

    @Holds(says = MADE_2)
    void reason14CountsThoseOfTheTeam() {
        WhalePolo polo = tenWhales();
        polo.swap(0, 6);
        polo.swap(1, 7);
        polo.swap(3, 8);
        refused(14, 2, polo, () -> polo.swap(2, 0));
    }

    // Their order.

    @Holds(says = ORDER)
    void theOrderOfSwap() {
        WhalePolo over = overWithCalves();
        refused(2, 48, over, () -> over.swap(6, 7));
        WhalePolo polo = tenWhales();
        refused(3, 6, polo, () -> polo.swap(6, 8));
        refused(3, 6, polo, () -> polo.swap(6, 0));
        refused(12, 1, polo, () -> polo.swap(0, 3));
        polo.swap(0, 6);
        polo.swap(6, 0);
        refused(3, 6, polo, () -> polo.swap(6, 7));
        refused(12, 1, polo, () -> polo.swap(0, 8));
        refused(13, 19, polo, () -> polo.swap(0, 1));
    }

    @Holds(says = ORDER)
    void theOrderOfSwimWithTheGameOver() {
        WhalePolo polo = overWithCalves();
        refused(2, 48, polo, () -> polo.swim(6, 10));
        refused(2, 48, polo, () -> polo.swim(0, 19));
        refused(2, 48, polo, () -> polo.swim(0, 44));
    }

    @Holds(says = ORDER)
    void theOrderOfSwimOnTheBench() {
        WhalePolo polo = tenWhales();
        drift(polo, 6);
        refused(3, 6, polo, () -> polo.swim(6, 10));
        refused(3, 6, polo, () -> polo.swim(6, 0));
    }

    @Holds(says = ORDER)
    void theOrderOfSwimStranded() {
        WhalePolo polo = strandedWhale();
        refused(4, 1, polo, () -> polo.swim(0, 10));
        refused(4, 1, polo, () -> polo.swim(0, 1));
        refused(4, 1, polo, () -> polo.swim(0, 0));
        refused(4, 1, polo, () -> polo.swim(0, 44));
        refused(4, 1, polo, () -> polo.swim(0, 22));
    }

    @Holds(says = ORDER)
    void theOrderOfSwimToATakenCell() {
        WhalePolo polo = strandedWhale();
        refused(7, 0, polo, () -> polo.swim(5, 1));
        refused(7, 2, polo, () -> polo.swim(5, 28));
        refused(7, 2, polo, () -> polo.swim(1, 28));
    }

    @Holds(says = ORDER)
    void theOrderOfSwimToADryCell() {
        WhalePolo polo = withBreath(0);
        drift(polo, 6 - polo.account(1));
        refused(8, 2, polo, () -> polo.swim(0, 44));
        refused(8, 2, polo, () -> polo.swim(0, 1));
    }

    @Holds(says = ORDER)
    void theOrderOfSwimFartherThanTheBreath() {
        WhalePolo polo = withBreath(3);
        int cell = polo.whaleOf(0, 4);
        refused(5, 5, polo, () -> polo.swim(0, cell + 21));
        refused(6, 3, polo, () -> polo.swim(0, cell + 20));
    }

    @Holds(says = ORDER)
    void theOrderOfStrike() {
        WhalePolo over = overWithCalves();
        refused(2, 48, over, () -> over.strike(6, EAST, 5));
        WhalePolo bench = new WhalePolo();
        for (int whale = 0; whale < 4; whale++) {
            bench.whale(0, 2, 4);
        }
        refused(3, 3, bench, () -> bench.strike(3, EAST, 5));
        refused(9, 4, bench, () -> bench.strike(0, EAST, 5));
        WhalePolo stranded = strandedWhale();
        refused(4, 1, stranded, () -> stranded.strike(0, EAST, 1));
        WhalePolo tired = tiredAtBuoy();
        refused(10, 3, tired, () -> tired.strike(0, EAST, 4));
        refused(6, 0, tired, () -> tired.strike(0, EAST, 3));
        WhalePolo far = withBreath(0);
        refused(9, 2, far, () -> far.strike(0, EAST, 1));
    }

    @Holds(says = ORDER)
    void theOrderOfStrikeStrandedAtTheBuoy() {
        WhalePolo polo = new WhalePolo();
        polo.whale(0, 2, 4);
        polo.swim(0, 13);
        polo.strike(0, NORTH, 2);
        polo.swim(0, 4);
        drift(polo, 3);
        refused(4, 4, polo, () -> polo.strike(0, SOUTH, 5));
    }

    @Holds(says = ORDER)
    void theOrderOfSing() {
        WhalePolo over = overWithCalves();
        refused(2, 48, over, () -> over.sing(6));
        WhalePolo tired = tiredAtBuoy();
        refused(11, 0, tired, () -> tired.sing(0));
        WhalePolo bench = new WhalePolo();
        for (int whale = 0; whale < 4; whale++) {
            bench.whale(0, 1, 4);
        }
        for (int swim = 0; swim < 5; swim++) {
            bench.swim(0, swim % 2 == 0 ? 14 : 10);
        }
        bench.swap(0, 3);
        refused(3, 0, bench, () -> bench.sing(0));
    }
}
