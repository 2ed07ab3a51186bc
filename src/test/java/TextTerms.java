/** The sentences of the terms about texts. */
final class TextTerms extends Sentences {

    private static final String ERROR = "The error position of a text that is malformed is the smallest index k such that "
        + "no text starts with the first k + 1 characters of it";
    private static final String COMES = "\"w\", a digit for the team, a digit for the strength and a digit for the speed "
        + "lets a whale come";
    private static final String SWIMS = "\"m\", a whale, \"@\" and a number for a cell lets it swim";
    private static final String STRIKES = "\"k\", a whale, \"n\", \"e\", \"s\" or \"w\" for the way and a digit for the "
        + "force lets it strike";
    private static final String SWAPS = "\"b\", a whale and a whale lets the second one come into play for the first one";
    private static final String THIRTY = "d;d;d;d;d;d;d;d;d;d;d;d;d;d;d;d;d;d;d;d;d;d;d;d;d;d;d;d;d;d";

    @Holds(says = "The input is a buffer of at most 60 characters.")
    void theInputHoldsSixtyCharacters() {
        WhalePolo polo = new WhalePolo();
        type(polo, THIRTY);
        due("the length", 60, () -> polo.append(';'));
        state(() -> polo.append('d'));
        due("the length is left", 60, () -> polo.account(12));
    }

    @Holds(says = "The input is a buffer of at most 60 characters.")
    void theInputHoldsSixtyCharactersAgainOnceItWasRead() {
        WhalePolo polo = new WhalePolo();
        type(polo, THIRTY + ";");
        argument(polo::read);
        type(polo, THIRTY);
        due("the length", 60, () -> polo.append('x'));
        state(() -> polo.append('d'));
    }

    // Commands.

    @Holds(says = "A text consists of one or several commands with a semicolon between two of them")
    void aTextOfOneCommand() {
        WhalePolo polo = new WhalePolo();
        due("commands", 1, () -> readText(polo, "d"));
        due("the clock", 1, () -> polo.account(1));
    }

    @Holds(says = "A text consists of one or several commands with a semicolon between two of them")
    void aTextOfThirtyCommands() {
        WhalePolo polo = new WhalePolo();
        due("commands", 30, () -> readText(polo, THIRTY));
        due("the clock", 30, () -> polo.account(1));
    }

    @Holds(says = "A text consists of one or several commands with a semicolon between two of them")
    void aTextOfNoCommandIsMalformed() {
        malformed(0, "");
    }

    @Holds(says = "A text consists of one or several commands with a semicolon between two of them")
    void aSemicolonAheadOfTheFirstCommandIsMalformed() {
        malformed(0, ";d");
    }

    @Holds(says = "A text consists of one or several commands with a semicolon between two of them")
    void aSemicolonBehindTheLastCommandIsMalformed() {
        malformed(2, "d;");
    }

    @Holds(says = "A text consists of one or several commands with a semicolon between two of them")
    void twoSemicolonsAreMalformed() {
        malformed(2, "d;;d");
    }

    @Holds(says = "A text consists of one or several commands with a semicolon between two of them")
    void twoCommandsWithoutASemicolonAreMalformed() {
        malformed(1, "dd");
        malformed(4, "w011d");
    }

    @Holds(says = COMES)
    void wLetsAWhaleCome() {
        WhalePolo polo = new WhalePolo();
        due("commands", 1, () -> readText(polo, "w153"));
        due("the whale", "1 5 3 20 16 0 0 0 0", () -> whaleTold(polo, 0));
        due("no stroke", 0, () -> polo.account(1));
    }

    @Holds(says = COMES)
    void wTakesThreeDigits() {
        for (int length = 1; length < 4; length++) {
            malformed(length, "w153".substring(0, length));
            malformed(length, "w153".substring(0, length) + "x");
        }
        malformed(4, "w1533");
    }

    @Holds(says = SWIMS)
    void mLetsAWhaleSwim() {
        WhalePolo polo = twoWhales();
        due("commands", 1, () -> readText(polo, "m1@14"));
        due("its cell", 14, () -> polo.whaleOf(1, 4));
        due("a stroke", 1, () -> polo.account(1));
    }

    @Holds(says = SWIMS)
    void mTakesAWhaleASignAndANumber() {
        malformed(1, "m");
        malformed(1, "m@");
        malformed(2, "m1");
        malformed(2, "m11@1");
        malformed(3, "m1@");
        malformed(3, "m1@x");
        malformed(3, "m1@;d");
    }

    @Holds(says = STRIKES)
    void kLetsAWhaleStrike() {
        int[] ends = {13, 23, 31, 21};
        for (int way = 0; way < 4; way++) {
            WhalePolo polo = twoWhales();
            polo.swim(0, 22);
            char letter = "nesw".charAt(way);
            due("commands", 1, () -> readText(polo, "k0" + letter + "1"));
            due("to " + letter, ends[way], () -> polo.account(5));
        }
    }

    @Holds(says = STRIKES)
    void kTakesAWhaleAWayAndADigit() {
        malformed(1, "k");
        malformed(1, "kn1");
        malformed(2, "k0");
        malformed(2, "k01");
        malformed(2, "k0N1");
        malformed(2, "k0x1");
        malformed(3, "k0n");
        malformed(3, "k0nn");
        malformed(4, "k0n11");
    }

    @Holds(says = "\"o\" and a whale lets it sing")
    void oLetsAWhaleSing() {
        WhalePolo polo = twoWhales();
        due("commands", 1, () -> readText(polo, "o1"));
        due("it sings", "0 1", () -> polo.whaleOf(0, 5) + " " + polo.whaleOf(1, 5));
    }

    @Holds(says = "\"o\" and a whale lets it sing")
    void oTakesAWhale() {
        malformed(1, "o");
        malformed(1, "o;");
        malformed(2, "o11");
    }

    @Holds(says = SWAPS)
    void bLetsTheSecondWhaleComeForTheFirst() {
        WhalePolo polo = tenWhales();
        due("commands", 1, () -> readText(polo, "b16"));
        due("both", "-1 19", () -> polo.whaleOf(1, 4) + " " + polo.whaleOf(6, 4));
    }

    @Holds(says = SWAPS)
    void bTakesTwoWhales() {
        malformed(1, "b");
        malformed(2, "b1");
        malformed(2, "b1;");
        malformed(2, "b1@6");
        malformed(3, "b167");
    }

    @Holds(says = "\"d\" lets a stroke pass")
    void dLetsAStrokePass() {
        WhalePolo polo = new WhalePolo();
        readText(polo, "d;d;d");
        due(3, () -> polo.account(1));
    }

    @Holds(says = "\"d\" lets a stroke pass")
    void dTakesNothing() {
        malformed(1, "d1");
        malformed(1, "d d");
    }

    // Digits.

    @Holds(says = "Whales are one digit")
    void theWhale9IsOneDigit() {
        WhalePolo polo = tenWhales();
        refusedCommand(3, 9, 0, polo, "o9");
    }

    @Holds(says = "Whales are one digit")
    void aWhaleOfTwoDigitsIsMalformed() {
        malformed(2, "o00");
        malformed(2, "k00n1");
    }

    @Holds(says = "numbers have one or two")
    void aCellOfOneDigit() {
        WhalePolo polo = twoWhales();
        readText(polo, "m0@9");
        due(9, () -> polo.whaleOf(0, 4));
    }

    @Holds(says = "numbers have one or two")
    void aCellOfTwoDigits() {
        WhalePolo polo = twoWhales();
        readText(polo, "m0@12");
        due(12, () -> polo.whaleOf(0, 4));
    }

    @Holds(says = "numbers have one or two")
    void aCellOfTwoDigitsTheFirstOf0() {
        WhalePolo polo = twoWhales();
        due("commands", 2, () -> readText(polo, "m0@01;m0@00"));
        due("the cell", 0, () -> polo.whaleOf(0, 4));
    }

    @Holds(says = "numbers have one or two")
    void aCellOfThreeDigitsIsMalformed() {
        malformed(5, "m0@123");
        malformed(5, "m0@001");
        malformed(5, "m0@12x");
        malformed(4, "m0@1x");
    }

    // What is thrown.

    @Holds(says = "The first command that cannot be done decides what is thrown.")
    void aRefusalAheadOfAMissingWhale() {
        WhalePolo polo = twoWhales();
        refusedCommand(11, 1, 1, polo, "o1;o1;o9");
    }

    @Holds(says = "The first command that cannot be done decides what is thrown.")
    void aMissingWhaleAheadOfARefusal() {
        WhalePolo polo = twoWhales();
        state(() -> readText(polo, "o1;o9;o1"));
        none(() -> polo.reason(0));
    }

    @Holds(says = "The first command that cannot be done decides what is thrown.")
    void theFirstOfTwoRefusals() {
        WhalePolo polo = twoWhales();
        refusedCommand(7, 1, 0, polo, "m0@16;k0e1");
        refusedCommand(9, 4, 0, polo, "k0e1;m0@16");
    }

    @Holds(says = "The first command that cannot be done decides what is thrown.")
    void aMalformedTextAheadOfAll() {
        WhalePolo polo = twoWhales();
        argument(() -> readText(polo, "o9;m0@16;q"));
        due("the error position", 9, polo::errorPosition);
        none(() -> polo.reason(0));
    }

    // Error positions.

    @Holds(says = ERROR)
    void noCommandBeginsWithAnotherSign() {
        for (String sign : new String[] {"q", "W", "D", " ", ";", "0", "@", "n", "e", "s", "x", "~"}) {
            malformed(0, sign + "d");
            malformed(2, "d;" + sign);
        }
    }

    @Holds(says = ERROR)
    void theSmallestIndexCountsWhenMoreIsWrong() {
        malformed(1, "dx;;q");
        malformed(3, "m0@x;m0@x");
    }

    @Holds(says = ERROR)
    void aDigitThatIsTooLargeIsNotMalformed() {
        for (String text : new String[] {"w999", "w000", "o9", "b99", "m9@99", "k9n9", "k0n0"}) {
            WhalePolo polo = twoWhales();
            due(text, "throws IllegalStateException", () -> readText(polo, text));
            none(polo::errorPosition);
        }
    }

    @Holds(says = ERROR)
    void theSignsAroundTheDigitsAreNone() {
        malformed(1, "o/");
        malformed(1, "o:");
        malformed(4, "m0@1/");
        malformed(4, "m0@1:");
    }

    @Holds(says = "if there is no such index, it is the length of the text")
    void aTextThatIsTooShortIsMalformedAtItsLength() {
        malformed(0, "");
        malformed(1, "w");
        malformed(2, "k0");
        malformed(3, "k0w");
        malformed(3, "m0@");
        malformed(2, "d;");
        malformed(7, "d;d;d;m");
    }

    @Holds(says = "if there is no such index, it is the length of the text")
    void aFullInputThatEndsWithASemicolonIsMalformedAt60() {
        malformed(60, THIRTY + ";");
    }
}
