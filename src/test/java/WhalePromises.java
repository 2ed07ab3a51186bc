/** The sentences of the promises 1 to 3: a new object, and whales. */
final class WhalePromises extends Sentences {

    private static final String REFUSED = "Throws `UnsupportedOperationException` if it is refused for the reason 1, or 7 "
        + "for the cell on which it would begin; the reason is then kept";
    private static final String NOT_SWAPPED = "Throws `UnsupportedOperationException` if it is refused for the reason 2, 3 "
        + "for the whale, 12, 13 or 14; the reason is then kept";
    private static final String RANGE = "Throws `IllegalArgumentException` if a number is out of range";
    private static final String MISSING = "Throws `IndexOutOfBoundsException` if there is no such whale, for either";
    private static final String LEFT = "Returns how many substitutions its team can still make in this chukka.";

    // A new object.

    @Holds(promise = 1, says = "Creates a game at the clock 0, without whales.")
    void aNewGameHasNoWhales() {
        WhalePolo polo = new WhalePolo();
        due("the whales", "0 0", () -> polo.account(0) + " " + polo.account(10));
        index(() -> polo.whaleOf(0, 0));
        for (int cell = 0; cell < 45; cell++) {
            int asked = cell;
            due("the cell " + cell, -1, () -> polo.at(asked));
        }
    }

    @Holds(promise = 1, says = "Creates a game at the clock 0, without whales.")
    void aNewGameIsAtTheClock0() {
        due("0 0 0 0 0 22 -1 0 0 0 0 0 0 0", () -> accountsOf(new WhalePolo()));
    }

    @Holds(promise = 1, says = "Creates a game at the clock 0, without whales.")
    void aNewGameIsNotThatOfAnotherObject() {
        WhalePolo other = midGame();
        WhalePolo polo = new WhalePolo();
        due("the accounts", "0 0 0 0 0 22 -1 0 0 0 0 0 0 0", () -> accountsOf(polo));
        state(polo::restore);
        none(polo::undo);
        none(polo::errorPosition);
        none(() -> polo.reason(0));
        none(() -> polo.character(0));
        polo.whale(0, 1, 1);
        due("the other one", 2, () -> other.account(0));
    }

    private static WhalePolo midGame() {
        WhalePolo polo = twoWhales();
        polo.save();
        polo.tell(0);
        attempt(polo, game -> game.swim(0, 16));
        attempt(polo, game -> readText(game, "q"));
        polo.append('d');
        return polo;
    }

    // whale.

    @Holds(promise = 2, says = "Lets a whale come.")
    void aWhaleComes() {
        WhalePolo polo = new WhalePolo();
        due("its number", 0, () -> polo.whale(1, 3, 2));
        due("the whale", "1 3 2 20 16 0 0 0 0", () -> whaleTold(polo, 0));
        due("it is there", 0, () -> polo.at(16));
        due("the whales", "1 1", () -> polo.account(0) + " " + polo.account(10));
    }

    @Holds(promise = 2, says = "`team`: its team, 0 or 1")
    void theTeamIs0Or1() {
        WhalePolo polo = new WhalePolo();
        due("0", 0, () -> polo.whale(0, 1, 1));
        due("1", 1, () -> polo.whale(1, 1, 1));
        argument("too small", () -> polo.whale(-1, 1, 1));
        argument("too large", () -> polo.whale(2, 1, 1));
        argument("the least", () -> polo.whale(Integer.MIN_VALUE, 1, 1));
        argument("the greatest", () -> polo.whale(Integer.MAX_VALUE, 1, 1));
    }

    @Holds(promise = 2, says = "`strength`: its strength, 1 to 5")
    void theStrengthIs1To5() {
        for (int strength = 1; strength <= 5; strength++) {
            WhalePolo polo = new WhalePolo();
            int told = strength;
            due("strength " + told, 0, () -> polo.whale(0, told, 1));
            due("it has it", told, () -> polo.whaleOf(0, 1));
        }
        WhalePolo polo = new WhalePolo();
        argument("too small", () -> polo.whale(0, 0, 1));
        argument("negative", () -> polo.whale(0, -1, 1));
        argument("too large", () -> polo.whale(0, 6, 1));
        argument("the least", () -> polo.whale(0, Integer.MIN_VALUE, 1));
        argument("the greatest", () -> polo.whale(0, Integer.MAX_VALUE, 1));
    }

    @Holds(promise = 2, says = "`speed`: its speed, 1 to 4")
    void theSpeedIs1To4() {
        for (int speed = 1; speed <= 4; speed++) {
            WhalePolo polo = new WhalePolo();
            int told = speed;
            due("speed " + told, 0, () -> polo.whale(0, 1, told));
            due("it has it", told, () -> polo.whaleOf(0, 2));
        }
        WhalePolo polo = new WhalePolo();
        argument("too small", () -> polo.whale(0, 1, 0));
        argument("negative", () -> polo.whale(0, 1, -1));
        argument("too large", () -> polo.whale(0, 1, 5));
        argument("the least", () -> polo.whale(0, 1, Integer.MIN_VALUE));
        argument("the greatest", () -> polo.whale(0, 1, Integer.MAX_VALUE));
    }

    @Holds(promise = 2, says = "Returns its number.")
    void theNumbersAre0To9() {
        WhalePolo polo = new WhalePolo();
        for (int whale = 0; whale < 10; whale++) {
            int team = whale / 5;
            due("the whale " + whale, whale, () -> polo.whale(team, 1, 1));
        }
    }

    @Holds(promise = 2, says = RANGE)
    void aWhaleOutOfRangeDoesNotCome() {
        WhalePolo polo = new WhalePolo();
        argument(() -> polo.whale(2, 1, 1));
        due("no whale", "0 0", () -> polo.account(0) + " " + polo.account(13));
        none(() -> polo.reason(0));
    }

    @Holds(promise = 2, says = REFUSED)
    void aSixthWhaleIsRefused() {
        WhalePolo polo = tenWhales();
        refused(1, 5, polo, () -> polo.whale(0, 1, 1));
        due("the whales", 10, () -> polo.account(0));
    }

    @Holds(promise = 2, says = REFUSED)
    void aWhaleIsRefusedWhileItsFirstCellIsTaken() {
        WhalePolo polo = new WhalePolo();
        polo.whale(0, 1, 4);
        polo.swim(0, 19);
        refused(7, 0, polo, () -> polo.whale(0, 1, 1));
        due("no whale", 1, () -> polo.account(0));
        polo.swim(0, 10);
        due("once it is free", 1, () -> polo.whale(0, 1, 1));
    }

    @Holds(promise = 2, says = REFUSED)
    void aWhaleOfTheOtherTeamTakesTheFirstCellToo() {
        WhalePolo polo = new WhalePolo();
        polo.whale(0, 1, 4);
        polo.swim(0, 14);
        polo.swim(0, 16);
        refused(7, 0, polo, () -> polo.whale(1, 1, 1));
    }

    @Holds(promise = 2, says = REFUSED)
    void aCalfComesWhateverIsTaken() {
        WhalePolo polo = sixWhales();
        due("its number", 6, () -> polo.whale(0, 1, 1));
        due("on the bench", -1, () -> polo.whaleOf(6, 4));
    }

    // swap.

    @Holds(promise = 3, says = "Lets a calf come into play for a whale, which goes to the bench.")
    void aCalfComesForAWhale() {
        WhalePolo polo = tenWhales();
        polo.swap(4, 9);
        due("the calf", 25, () -> polo.whaleOf(9, 4));
        due("the whale", -1, () -> polo.whaleOf(4, 4));
        due("on the cell", 9, () -> polo.at(25));
        due("in play", 6, () -> polo.account(10));
        due("the substitutions", 1, () -> polo.account(9));
    }

    @Holds(promise = 3, says = "`in`: the calf, a whale on the bench")
    void aWhaleThatWentCanComeAgain() {
        WhalePolo polo = tenWhales();
        polo.swap(0, 6);
        due("it comes for another", 0, () -> polo.swap(1, 0));
        due("its cell", 19, () -> polo.whaleOf(0, 4));
    }

    @Holds(promise = 3, says = LEFT)
    void oneThenNoneIsLeft() {
        WhalePolo polo = tenWhales();
        due("the first", 1, () -> polo.swap(0, 6));
        due("the second", 0, () -> polo.swap(1, 7));
    }

    @Holds(promise = 3, says = LEFT)
    void theOtherTeamHasItsOwn() {
        WhalePolo polo = tenWhales();
        polo.swap(0, 6);
        polo.swap(1, 7);
        due("the first of team 1", 1, () -> polo.swap(3, 8));
        due("the second of team 1", 0, () -> polo.swap(4, 9));
    }

    @Holds(promise = 3, says = LEFT)
    void eachChukkaHasItsOwn() {
        WhalePolo polo = tenWhales();
        polo.swap(0, 6);
        drift(polo, 11);
        due("the first of the next", 1, () -> polo.swap(6, 0));
        due("the second of the next", 0, () -> polo.swap(0, 6));
    }

    @Holds(promise = 3, says = MISSING)
    void thereIsNoSuchWhaleToSwap() {
        WhalePolo polo = tenWhales();
        for (int wrong : noWhales(10)) {
            index("the whale " + wrong, () -> polo.swap(wrong, 6));
            index("the calf " + wrong, () -> polo.swap(0, wrong));
        }
        index("without whales", () -> new WhalePolo().swap(0, 0));
        due("no stroke", 0, () -> polo.account(1));
    }

    @Holds(promise = 3, says = NOT_SWAPPED)
    void aSwapIsRefusedOnceTheGameIsOver() {
        WhalePolo polo = tenWhales();
        drift(polo, 47);
        due("not ahead of it", 1, () -> polo.swap(0, 6));
        refused(2, 48, polo, () -> polo.swap(6, 0));
    }

    @Holds(promise = 3, says = NOT_SWAPPED)
    void aSwapIsRefusedForAWhaleOnTheBench() {
        WhalePolo polo = tenWhales();
        refused(3, 6, polo, () -> polo.swap(6, 7));
        refused(3, 6, polo, () -> polo.swap(6, 6));
    }

    @Holds(promise = 3, says = NOT_SWAPPED)
    void aSwapIsRefusedForACalfOfTheOtherTeam() {
        WhalePolo polo = tenWhales();
        refused(12, 1, polo, () -> polo.swap(2, 9));
    }

    @Holds(promise = 3, says = NOT_SWAPPED)
    void aSwapIsRefusedForACalfInPlay() {
        WhalePolo polo = tenWhales();
        polo.swap(0, 6);
        refused(13, 10, polo, () -> polo.swap(1, 6));
    }

    @Holds(promise = 3, says = NOT_SWAPPED)
    void aThirdSwapIsRefused() {
        WhalePolo polo = tenWhales();
        polo.swap(0, 6);
        polo.swap(1, 7);
        refused(14, 2, polo, () -> polo.swap(2, 0));
        due("no third one", "2 2", () -> polo.account(9) + " " + polo.account(1));
    }
}
