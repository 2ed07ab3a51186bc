/** The sentences of the promises 26 to 31: lines, means and accounts. */
final class LinePromises extends Sentences {

    private static final String ROW = "Writes a row of the field, in place of the line before";
    private static final String SIGNS = "for each cell the number of the whale on it, or else \"o\" for the buoy, \"_\" if it "
        + "is dry, and \".\" otherwise";
    private static final String TELL = "Writes a whale, in place of the line before";
    private static final String PARTS = "its number, \":\" and its team, \"^\" and its strength, \"/\" and its speed, \"%\" and "
        + "its breath, and \"@\" and its cell if it is in play, and \"!\" if it sings";
    private static final String LENGTH = "Returns the length of the line.";
    private static final String MEAN = "Returns the mean breath of the whales in play: the sum divided by how many there are, "
        + "both converted to double.";
    private static final String SHARE = "Returns the share of the strikes so far that were fouls, both numbers converted to "
        + "float.";

    private static String rowOf(WhalePolo polo, int y) {
        polo.row(y);
        return lineOf(polo);
    }

    private static String tellOf(WhalePolo polo, int whale) {
        polo.tell(whale);
        return lineOf(polo);
    }

    // row.

    @Holds(promise = 26, says = ROW)
    void aRowIsInPlaceOfALongerLine() {
        WhalePolo polo = twoWhales();
        due("the longer line", 13, () -> polo.tell(0));
        polo.row(4);
        due("the row", ".........", () -> lineOf(polo));
    }

    @Holds(promise = 26, says = SIGNS)
    void theRowsOfAFullGame() {
        WhalePolo polo = sixWhales();
        String[] rows = {".........", ".0.....3.", ".1..o..4.", ".2.....5.", "........."};
        for (int y = 0; y < 5; y++) {
            int asked = y;
            due("row " + y, rows[y], () -> rowOf(polo, asked));
        }
    }

    @Holds(promise = 26, says = SIGNS)
    void theWhale9HasOneSign() {
        WhalePolo polo = tenWhales();
        polo.swap(5, 9);
        due(".2.....9.", () -> rowOf(polo, 3));
    }

    @Holds(promise = 26, says = SIGNS)
    void aWhaleIsAheadOfTheBuoy() {
        WhalePolo polo = sixWhales();
        polo.swim(1, 22);
        due("....1..4.", () -> rowOf(polo, 2));
    }

    @Holds(promise = 26, says = SIGNS)
    void aWhaleAndTheBuoyAreAheadOfADryCell() {
        WhalePolo polo = twoWhales();
        polo.swim(0, 13);
        polo.strike(0, NORTH, 2);
        polo.swim(1, 7);
        due("wet", "....o..1.", () -> rowOf(polo, 0));
        drift(polo, 3);
        due("dry", "____o__1_", () -> rowOf(polo, 0));
        due("the last row", "_________", () -> rowOf(polo, 4));
        due("never dry", "....0....", () -> rowOf(polo, 1));
    }

    @Holds(promise = 26, says = "`y`: the row, from 0 in the north")
    void theRow0IsInTheNorth() {
        WhalePolo polo = twoWhales();
        polo.swim(0, 0);
        due("the row 0", "0........", () -> rowOf(polo, 0));
        due("the row 4", ".........", () -> rowOf(polo, 4));
    }

    @Holds(promise = 26, says = LENGTH)
    void aRowHasNineCharacters() {
        WhalePolo polo = tenWhales();
        for (int y = 0; y < 5; y++) {
            int asked = y;
            due("row " + y, 9, () -> polo.row(asked));
        }
        none(() -> polo.character(9));
    }

    @Holds(promise = 26, says = "Throws `IndexOutOfBoundsException` if there is no such row")
    void thereIsNoSuchRow() {
        WhalePolo polo = tenWhales();
        polo.tell(0);
        for (int wrong : new int[] {-1, 5, 6, Integer.MIN_VALUE, Integer.MAX_VALUE}) {
            index("the row " + wrong, () -> polo.row(wrong));
        }
        due("the line before is left", "0:0^5/4%20@10", () -> lineOf(polo));
    }

    // tell.

    @Holds(promise = 27, says = TELL)
    void aWhaleIsInPlaceOfALongerLine() {
        WhalePolo polo = tenWhales();
        due("the longer line", 13, () -> polo.tell(0));
        polo.tell(6);
        due("the whale", "6:0^5/4%20", () -> lineOf(polo));
    }

    @Holds(promise = 27, says = PARTS)
    void aWhaleInPlay() {
        WhalePolo polo = new WhalePolo();
        polo.whale(1, 4, 2);
        due("0:1^4/2%20@16", () -> tellOf(polo, 0));
    }

    @Holds(promise = 27, says = PARTS)
    void aWhaleThatSings() {
        WhalePolo polo = sixWhales();
        polo.sing(5);
        due("5:1^5/4%19@34!", () -> tellOf(polo, 5));
    }

    @Holds(promise = 27, says = PARTS)
    void aWhaleOnTheBenchHasNoCell() {
        WhalePolo polo = tenWhales();
        due("a calf", "9:1^5/4%20", () -> tellOf(polo, 9));
        polo.sing(0);
        polo.swap(0, 7);
        due("one that sang", "0:0^5/4%19", () -> tellOf(polo, 0));
    }

    @Holds(promise = 27, says = PARTS)
    void aWhaleWithoutBreathOnTheCell0() {
        WhalePolo polo = withBreath(5);
        polo.swim(0, 10);
        polo.swim(0, 0);
        due("two breath", "0:0^5/4%2@0", () -> tellOf(polo, 0));
        due("none", "0:0^5/4%0@14", () -> tellOf(withBreath(0), 0));
        due("nine and ten", "0:0^5/4%9@13 0:0^5/4%10@12", () -> tellOf(withBreath(9), 0) + " "
            + tellOf(withBreath(10), 0));
    }

    @Holds(promise = 27, says = "as in \"3:1^4/2%17@22!\"")
    void theWhaleOfTheExample() {
        WhalePolo polo = whaleOfTheExample();
        due("its length", 14, () -> polo.tell(3));
        due("the whale", "3:1^4/2%17@22!", () -> lineOf(polo));
    }

    /** The whale 3 of team 1, of strength 4 and speed 2, sings on 22 with 17 breath. */
    private static WhalePolo whaleOfTheExample() {
        WhalePolo polo = new WhalePolo();
        for (int whale = 0; whale < 3; whale++) {
            polo.whale(0, 1, 1);
        }
        polo.whale(1, 4, 2);
        polo.swim(3, 14);
        drift(polo, 11);
        polo.swim(3, 22);
        polo.sing(3);
        return polo;
    }

    @Holds(promise = 27, says = LENGTH)
    void theLengthIsThatOfTheLine() {
        WhalePolo polo = tenWhales();
        due("on the bench", 10, () -> polo.tell(6));
        due("in play", 13, () -> polo.tell(0));
        polo.sing(0);
        due("singing", 14, () -> polo.tell(0));
        none(() -> polo.character(14));
    }

    @Holds(promise = 27, says = "Throws `IndexOutOfBoundsException` if there is no such whale")
    void tellOfNoWhale() {
        WhalePolo polo = tenWhales();
        polo.row(1);
        for (int wrong : noWhales(10)) {
            index("the whale " + wrong, () -> polo.tell(wrong));
        }
        due("the line before is left", ".0.....3.", () -> lineOf(polo));
        index("without whales", () -> new WhalePolo().tell(0));
    }

    // character.

    @Holds(promise = 28, says = "Returns a character of the line, which is empty at first.")
    void theLineIsEmptyAtFirst() {
        none(() -> new WhalePolo().character(0));
    }

    @Holds(promise = 28, says = "`index`: the index, from 0")
    void theFirstAndTheLastCharacter() {
        WhalePolo polo = sixWhales();
        polo.tell(3);
        due("the first", '3', () -> polo.character(0));
        due("the last", '6', () -> polo.character(12));
    }

    @Holds(promise = 28, says = "Throws `NoSuchElementException` if there is none")
    void thereIsNoSuchCharacter() {
        WhalePolo polo = sixWhales();
        polo.tell(3);
        for (int wrong : new int[] {-1, 13, 14, 31, 32, 33, Integer.MIN_VALUE, Integer.MAX_VALUE}) {
            none(() -> polo.character(wrong));
        }
    }

    // meanBreath.

    @Holds(promise = 29, says = MEAN)
    void theMeanIsNotRounded() {
        WhalePolo polo = new WhalePolo();
        polo.whale(0, 1, 4);
        polo.whale(0, 1, 4);
        polo.whale(0, 1, 4);
        polo.sing(0);
        due("59 by 3", 59.0 / 3.0, polo::meanBreath);
        polo.sing(1);
        due("58 by 3", 58.0 / 3.0, polo::meanBreath);
    }

    @Holds(promise = 29, says = MEAN)
    void theMeanIsWithoutTheBench() {
        WhalePolo polo = tenWhales();
        polo.swim(0, 14);
        due("116 by 6", 116.0 / 6.0, polo::meanBreath);
        polo.swap(0, 6);
        due("without the tired one", 20.0, polo::meanBreath);
    }

    @Holds(promise = 29, says = MEAN)
    void theMeanCanBe0() {
        due(0.0, () -> withBreath(0).meanBreath());
    }

    @Holds(promise = 29, says = "Throws `ArithmeticException` if there are none")
    void thereIsNoMeanWithoutWhales() {
        WhalePolo polo = new WhalePolo();
        arithmetic(polo::meanBreath);
        polo.whale(0, 1, 1);
        due("of one", 20.0, polo::meanBreath);
        polo.undo();
        arithmetic(polo::meanBreath);
    }

    // foulShare.

    @Holds(promise = 30, says = SHARE)
    void theShareIsNotRounded() {
        WhalePolo polo = songAtBuoy();
        due("none of one", 0.0f, polo::foulShare);
        polo.strike(0, EAST, 1);
        due("one of two", 0.5f, polo::foulShare);
        polo.strike(0, EAST, 1);
        due("two of three", 2.0f / 3.0f, polo::foulShare);
        polo.strike(1, WEST, 5);
        due("two of four", 0.5f, polo::foulShare);
    }

    @Holds(promise = 30, says = "Throws `ArithmeticException` if there was none")
    void thereIsNoShareWithoutStrikes() {
        WhalePolo polo = twoWhales();
        arithmetic(polo::foulShare);
        polo.swim(0, 13);
        arithmetic(polo::foulShare);
        polo.strike(0, EAST, 1);
        due("of one", 0.0f, polo::foulShare);
        polo.undo();
        arithmetic(polo::foulShare);
    }

    // account.

    @Holds(promise = 31, says = "0 for the whales, 1 for the clock")
    void account0And1TellWhalesAndClock() {
        WhalePolo polo = tenWhales();
        drift(polo, 48);
        due("10 48", () -> polo.account(0) + " " + polo.account(1));
    }

    @Holds(promise = 31, says = "2 for the chukka, and 4 as the game is over")
    void account2TellsTheChukka() {
        int[] clocks = {0, 11, 12, 23, 24, 35, 36, 47, 48};
        int[] chukkas = {0, 0, 1, 1, 2, 2, 3, 3, 4};
        WhalePolo polo = new WhalePolo();
        for (int row = 0; row < clocks.length; row++) {
            drift(polo, clocks[row] - polo.account(1));
            due("at " + clocks[row], chukkas[row], () -> polo.account(2));
        }
    }

    @Holds(promise = 31, says = "3 for the goals of the team 0, 4 for those of the team 1")
    void account3And4TellTheGoals() {
        WhalePolo polo = twoWhales();
        polo.swim(0, 13);
        polo.strike(0, EAST, 5);
        polo.strike(0, EAST, 5);
        polo.strike(0, WEST, 5);
        due("2 1", () -> polo.account(3) + " " + polo.account(4));
    }

    @Holds(promise = 31, says = "5 for the cell of the buoy")
    void account5TellsTheBuoy() {
        WhalePolo polo = twoWhales();
        due("at first", 22, () -> polo.account(5));
        polo.swim(0, 13);
        polo.strike(0, WEST, 4);
        due("struck", 18, () -> polo.account(5));
    }

    @Holds(promise = 31, says = "6 for the team that has the right, -1 for none")
    void account6TellsTheRight() {
        WhalePolo polo = twoWhales();
        due("none", -1, () -> polo.account(6));
        polo.swim(0, 13);
        polo.strike(0, NORTH, 1);
        due("the team 0", 0, () -> polo.account(6));
        polo.strike(0, NORTH, 5);
        due("the team 1", 1, () -> polo.account(6));
    }

    @Holds(promise = 31, says = "7 for the strikes so far, 8 for the fouls so far")
    void account7And8TellStrikesAndFouls() {
        WhalePolo polo = songAtBuoy();
        due("ahead of it", "1 0", () -> polo.account(7) + " " + polo.account(8));
        polo.strike(0, EAST, 1);
        due("by a foul", "2 1", () -> polo.account(7) + " " + polo.account(8));
        drift(polo, 4);
        due("in the next chukka", "2 1", () -> polo.account(7) + " " + polo.account(8));
    }

    @Holds(promise = 31, says = "9 for the substitutions so far, 10 for the whales in play")
    void account9And10TellSubstitutionsAndWhalesInPlay() {
        WhalePolo polo = tenWhales();
        polo.swap(0, 6);
        polo.swap(3, 8);
        due("of both teams", "2 6", () -> polo.account(9) + " " + polo.account(10));
        drift(polo, 10);
        due("in the next chukka", "2 6", () -> polo.account(9) + " " + polo.account(10));
        polo.swap(6, 0);
        due("so far", "3 6", () -> polo.account(9) + " " + polo.account(10));
    }

    @Holds(promise = 31, says = "11 for how often the buoy was in the nets so far")
    void account11TellsTheNets() {
        WhalePolo polo = twoWhales();
        polo.swim(0, 13);
        polo.strike(0, NORTH, 5);
        polo.strike(0, NORTH, 1);
        due("twice", 2, () -> polo.account(11));
        drift(polo, 9);
        due("in the next chukka", 2, () -> polo.account(11));
    }

    @Holds(promise = 31, says = "12 for the characters of the input, 13 for the changes that can be undone")
    void account12And13TellInputAndChanges() {
        WhalePolo polo = new WhalePolo();
        due("none", "0 0", () -> polo.account(12) + " " + polo.account(13));
        type(polo, "d;d");
        due("three", "3 0", () -> polo.account(12) + " " + polo.account(13));
        polo.read();
        due("read", "0 1", () -> polo.account(12) + " " + polo.account(13));
        drift(polo, 6);
        due("six at most", "0 6", () -> polo.account(12) + " " + polo.account(13));
    }

    @Holds(promise = 31, says = "Throws `IllegalArgumentException` if account is not 0 to 13")
    void thereIsNoSuchAccount() {
        WhalePolo polo = tenWhales();
        polo.swap(0, 6);
        for (int wrong : new int[] {-1, 14, 15, 16, 17, 18, Integer.MIN_VALUE, Integer.MAX_VALUE}) {
            argument("the account " + wrong, () -> polo.account(wrong));
        }
    }
}
