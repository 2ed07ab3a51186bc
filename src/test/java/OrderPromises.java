/** The sentences of the promises 22 to 25: orders. */
final class OrderPromises extends Sentences {

    private static final String ORDERED = "Returns a whale in an order: the most first, of several the lowest.";
    private static final String KINDS = "`kind`: 0 by breath, 1 by goals so far, 2 by fouls so far, 3 by strikes so far, 4 by "
        + "strength and speed together";
    private static final String CALF = "Returns the calf of a team that is the best substitute: the one with the most breath, "
        + "of several the stronger one, then the lowest.";
    private static final String NO_CALF = "Throws `NoSuchElementException` if it has none on the bench";
    private static final String LEADS = "Returns the team, -1 if none does.";

    private static String order(WhalePolo polo, int kind) {
        StringBuilder told = new StringBuilder();
        for (int place = 0; place < polo.account(0); place++) {
            told.append(polo.ranked(kind, place));
        }
        return told.toString();
    }

    // ranked.

    @Holds(promise = 22, says = ORDERED)
    void ofSeveralTheLowestIsFirst() {
        WhalePolo polo = tenWhales();
        for (int kind = 0; kind < 5; kind++) {
            int asked = kind;
            due("kind " + kind, "0123456789", () -> order(polo, asked));
        }
    }

    @Holds(promise = 22, says = KINDS)
    void kind0IsByBreath() {
        WhalePolo polo = tenWhales();
        polo.sing(0);
        polo.swim(3, 14);
        polo.sing(5);
        due("1246789053", () -> order(polo, 0));
    }

    @Holds(promise = 22, says = KINDS)
    void kind1IsByGoals() {
        WhalePolo polo = twoWhales();
        polo.swim(1, 13);
        polo.strike(1, WEST, 5);
        polo.whale(0, 1, 1);
        due("one goal", "102", () -> order(polo, 1));
        polo.strike(1, EAST, 5);
        due("a goal for the other team is none", "1 0", () -> polo.ranked(1, 0) + " " + polo.ranked(1, 1));
    }

    @Holds(promise = 22, says = KINDS)
    void kind2IsByFouls() {
        WhalePolo polo = new WhalePolo();
        polo.whale(1, 5, 4);
        polo.whale(0, 5, 4);
        polo.swim(0, 14);
        polo.swim(0, 22);
        polo.sing(0);
        polo.strike(0, SOUTH, 1);
        polo.swim(1, 12);
        polo.swim(1, 30);
        polo.strike(1, WEST, 1);
        due("one foul", "1 10", () -> polo.whaleOf(1, 7) + " " + order(polo, 2));
    }

    @Holds(promise = 22, says = KINDS)
    void kind3IsByStrikes() {
        WhalePolo polo = tenWhales();
        polo.swim(1, 21);
        polo.swim(4, 23);
        polo.strike(4, NORTH, 1);
        polo.swim(4, 14);
        polo.strike(4, SOUTH, 1);
        polo.strike(1, SOUTH, 1);
        due("4102356789", () -> order(polo, 3));
    }

    @Holds(promise = 22, says = KINDS)
    void kind4IsByStrengthAndSpeedTogether() {
        WhalePolo polo = new WhalePolo();
        polo.whale(0, 1, 4);
        polo.whale(1, 4, 1);
        polo.whale(0, 5, 1);
        polo.whale(1, 3, 4);
        polo.whale(0, 1, 1);
        due("32014", () -> order(polo, 4));
    }

    @Holds(promise = 22, says = "`place`: the place in it, from 0")
    void thePlacesAre0ToOneLessThanTheWhales() {
        WhalePolo polo = twoWhales();
        due("the first", 0, () -> polo.ranked(0, 0));
        due("the last", 1, () -> polo.ranked(0, 1));
        none(() -> polo.ranked(0, 2));
        none(() -> polo.ranked(0, -1));
    }

    @Holds(promise = 22, says = "Throws `IllegalArgumentException` if there is no such kind")
    void rankedByNoKind() {
        WhalePolo polo = tenWhales();
        for (int wrong : new int[] {-1, 5, 6, Integer.MIN_VALUE, Integer.MAX_VALUE}) {
            argument("the kind " + wrong, () -> polo.ranked(wrong, 0));
        }
    }

    @Holds(promise = 22, says = "Throws `NoSuchElementException` if there is no such place")
    void rankedOfNoPlace() {
        WhalePolo polo = tenWhales();
        for (int kind = 0; kind < 5; kind++) {
            int asked = kind;
            for (int wrong : new int[] {-1, 10, 11, Integer.MIN_VALUE, Integer.MAX_VALUE}) {
                none(() -> polo.ranked(asked, wrong));
            }
        }
        none(() -> new WhalePolo().ranked(0, 0));
    }

    // calf.

    @Holds(promise = 23, says = CALF)
    void theCalfWithTheMostBreath() {
        WhalePolo polo = new WhalePolo();
        for (int whale = 0; whale < 5; whale++) {
            polo.whale(0, whale < 3 ? 5 : 1, 4);
        }
        polo.swim(0, 11);
        polo.swap(0, 3);
        due("rather than the stronger one", 4, () -> polo.calf(0));
    }

    @Holds(promise = 23, says = CALF)
    void theStrongerCalfOfTheSameBreath() {
        WhalePolo polo = sixWhales();
        polo.whale(0, 2, 4);
        polo.whale(0, 3, 1);
        polo.whale(1, 4, 1);
        polo.whale(1, 3, 4);
        due("the second", 7, () -> polo.calf(0));
        due("the first", 8, () -> polo.calf(1));
    }

    @Holds(promise = 23, says = CALF)
    void theLowestCalfOfTheSameBreathAndStrength() {
        WhalePolo polo = sixWhales();
        polo.whale(0, 2, 1);
        polo.whale(0, 2, 4);
        due(6, () -> polo.calf(0));
    }

    @Holds(promise = 23, says = CALF)
    void aWhaleThatWentIsACalf() {
        WhalePolo polo = sixWhales();
        polo.whale(0, 5, 4);
        polo.swap(1, 6);
        due(1, () -> polo.calf(0));
    }

    @Holds(promise = 23, says = CALF)
    void theFirstWhaleOfAllAsACalf() {
        WhalePolo polo = sixWhales();
        polo.whale(0, 4, 4);
        polo.whale(0, 5, 4);
        polo.swap(0, 6);
        due("the lowest of two that are as strong", 0, () -> polo.calf(0));
        polo.swap(1, 7);
        due("of the whales that went", 0, () -> polo.calf(0));
    }

    @Holds(promise = 23, says = "Throws `IllegalArgumentException` if there is no such team")
    void theCalfOfNoTeam() {
        WhalePolo polo = tenWhales();
        for (int wrong : new int[] {-1, 2, 3, Integer.MIN_VALUE, Integer.MAX_VALUE}) {
            argument("the team " + wrong, () -> polo.calf(wrong));
        }
    }

    @Holds(promise = 23, says = NO_CALF)
    void noCalfWithoutAFourthWhale() {
        WhalePolo polo = sixWhales();
        none(() -> polo.calf(0));
        none(() -> polo.calf(1));
        polo.whale(1, 1, 1);
        none(() -> polo.calf(0));
        due("of the other team", 6, () -> polo.calf(1));
        none(() -> new WhalePolo().calf(0));
    }

    // leader.

    @Holds(promise = 24, says = LEADS)
    void noTeamLeadsWithoutGoals() {
        due(-1, () -> new WhalePolo().leader());
    }

    @Holds(promise = 24, says = LEADS)
    void theTeamWithMoreGoalsLeads() {
        WhalePolo east = twoWhales();
        east.swim(0, 13);
        east.strike(0, EAST, 5);
        due("the team 0", 0, east::leader);
        WhalePolo west = twoWhales();
        west.swim(0, 13);
        west.strike(0, WEST, 5);
        due("the team 1", 1, west::leader);
    }

    @Holds(promise = 24, says = LEADS)
    void noTeamLeadsWithAsManyGoals() {
        WhalePolo polo = twoWhales();
        polo.swim(0, 13);
        polo.strike(0, EAST, 5);
        polo.strike(0, WEST, 5);
        due("one each", -1, polo::leader);
        polo.strike(0, WEST, 5);
        polo.strike(0, EAST, 5);
        due("two each", -1, polo::leader);
    }

    // isFair.

    private static final String FAIR = "Tells whether the tide of the next 20 strokes, the steps of all whales in play to all "
        + "cells, and where the buoy would be are told alike by both ways, no two whales are on a cell, and no team has more "
        + "than 3 in play.";

    @Holds(promise = 25, says = FAIR)
    void aGameWithoutWhalesIsFair() {
        WhalePolo polo = new WhalePolo();
        due("at 0", true, polo::isFair);
        drift(polo, 48);
        due("at 48", true, polo::isFair);
    }

    @Holds(promise = 25, says = FAIR)
    void aFullGameIsFairAtEachClock() {
        WhalePolo polo = tenWhales();
        for (int clock = 0; clock <= 48; clock++) {
            due("at " + clock, true, polo::isFair);
            if (clock < 48) {
                polo.drift();
            }
        }
    }

    @Holds(promise = 25, says = FAIR)
    void aGameIsFairBehindEachKindOfStroke() {
        WhalePolo polo = songAtBuoy();
        due("by a song", true, polo::isFair);
        polo.strike(0, SOUTH, 1);
        due("by a foul in the nets", true, polo::isFair);
        polo.strike(0, WEST, 5);
        due("by a foul out of the field", true, polo::isFair);
        WhalePolo low = tenWhales();
        low.swim(0, 1);
        low.swap(1, 6);
        low.swap(6, 1);
        drift(low, 3);
        due("with a stranded whale", true, low::isFair);
    }
}
