/** The sentences of the promises 32 to 35: texts, and what is kept of them and of refusals. */
final class TextPromises extends Sentences {

    private static final String NONE_OF_THEM = "Carries out the commands of the text in the input, one after the other, or "
        + "none of them.";
    private static final String EMPTY = "The input is empty afterwards, whatever happens.";
    private static final String MALFORMED = "Throws `IllegalArgumentException` if the input is malformed; the error position "
        + "is then kept";
    private static final String MISSING = "Throws `IllegalStateException` if a command tells a whale or a cell that there is "
        + "not, or a number out of range";
    private static final String REFUSED = "Throws `UnsupportedOperationException` if a command is refused; the reason is then "
        + "kept";
    private static final String KEPT_ERROR = "Returns the error position that was kept last; it stays until the next one is "
        + "kept.";
    private static final String NUMBERS = "`what`: 0 for the reason, 1 for its detail, 2 for the number of the command in its "
        + "text, from 0, -1 for another call";

    // append.

    @Holds(promise = 32, says = "Appends a character to the input.")
    void aCharacterIsAppendedBehindTheOthers() {
        WhalePolo polo = new WhalePolo();
        polo.append('w');
        polo.append('0');
        polo.append('1');
        polo.append('2');
        polo.read();
        due("0 1 2 20 10 0 0 0 0", () -> whaleTold(polo, 0));
    }

    @Holds(promise = 32, says = "`character`: the character, with a code from 32 to 126")
    void theCodesAre32To126() {
        WhalePolo polo = new WhalePolo();
        due("the code 32", 1, () -> polo.append(' '));
        due("the code 126", 2, () -> polo.append('~'));
        argument("the code 31", () -> polo.append((char) 31));
        argument("the code 127", () -> polo.append((char) 127));
        due("the length", 2, () -> polo.account(12));
    }

    @Holds(promise = 32, says = "`character`: the character, with a code from 32 to 126")
    void allCodesBetweenAreTaken() {
        for (int code = 32; code <= 126; code++) {
            WhalePolo polo = new WhalePolo();
            char sign = (char) code;
            due("the code " + code, 1, () -> polo.append(sign));
        }
    }

    @Holds(promise = 32, says = "Returns the new length of the input.")
    void theLengthsAre1To60() {
        WhalePolo polo = new WhalePolo();
        for (int length = 1; length <= 60; length++) {
            due("length", length, () -> polo.append('x'));
        }
    }

    @Holds(promise = 32, says = "Throws `IllegalArgumentException` if the character code is out of range")
    void noOtherCodeIsTaken() {
        WhalePolo polo = new WhalePolo();
        for (int code : new int[] {0, 9, 10, 31, 127, 128, 160, 255, 256, 256 + 'd', 0xD800, 0xFFFF}) {
            argument("the code " + code, () -> polo.append((char) code));
        }
        due("the length", 0, () -> polo.account(12));
    }

    @Holds(promise = 32, says = "Throws `IllegalStateException` if the input has 60 characters")
    void theSixtyFirstCharacterIsNotTaken() {
        WhalePolo polo = new WhalePolo();
        for (int length = 0; length < 59; length++) {
            polo.append(' ');
        }
        due("the last", 60, () -> polo.append(' '));
        state(() -> polo.append(' '));
        state(() -> polo.append('~'));
        due("the length", 60, () -> polo.account(12));
    }

    // read.

    @Holds(promise = 33, says = NONE_OF_THEM)
    void theCommandsAreCarriedOutOneAfterTheOther() {
        WhalePolo polo = new WhalePolo();
        due("commands", 7, () -> readText(polo, "w054;w154;m0@13;k0e2;o0;m0@14;d"));
        due("the accounts", "2 5 0 0 0 24 0 1 0 0 2 0 0 1", () -> accountsOf(polo));
        due("the whale", "0 5 4 14 14 0 0 0 1", () -> whaleTold(polo, 0));
    }

    @Holds(promise = 33, says = NONE_OF_THEM)
    void noneIsCarriedOutIfALaterOneIsRefused() {
        WhalePolo polo = twoWhales();
        String before = stateOf(polo);
        refusedCommand(7, 1, 4, polo, "m0@13;k0e2;o0;w011;m0@16");
        due("the state", before, () -> stateOf(polo));
    }

    @Holds(promise = 33, says = NONE_OF_THEM)
    void noneIsCarriedOutIfALaterOneTellsWhatThereIsNot() {
        WhalePolo polo = twoWhales();
        String before = stateOf(polo);
        state(() -> readText(polo, "m0@13;k0e2;o0;w011;m0@45"));
        due("the state", before, () -> stateOf(polo));
    }

    @Holds(promise = 33, says = NONE_OF_THEM)
    void noneIsCarriedOutIfTheTextIsMalformed() {
        WhalePolo polo = twoWhales();
        String before = gameOf(polo);
        argument(() -> readText(polo, "m0@13;k0e2;o0;w011;"));
        due("the game", before, () -> gameOf(polo));
    }

    @Holds(promise = 33, says = NONE_OF_THEM)
    void aCommandIsJudgedBehindTheOnesAheadOfIt() {
        WhalePolo polo = new WhalePolo();
        due("a whale that came", 2, () -> readText(polo, "w111;o0"));
        due("a cell that is free", 2, () -> readText(polo, "m0@15;w111"));
        refusedCommand(11, 0, 1, polo, "o0;o0");
        refusedCommand(1, 5, 3, polo, "w111;w111;w111;w111");
    }

    @Holds(promise = 33, says = NONE_OF_THEM)
    void aTextGoesAcrossTheEndOfAChukka() {
        WhalePolo polo = twoWhales();
        drift(polo, 11);
        due("commands", 2, () -> readText(polo, "o0;o0"));
        due("the clock", "13 1 1", () -> polo.account(1) + " " + polo.account(2) + " " + polo.whaleOf(0, 5));
    }

    @Holds(promise = 33, says = EMPTY)
    void theInputIsEmptyOnceItWasRead() {
        WhalePolo polo = twoWhales();
        readText(polo, "d");
        due("the length", 0, () -> polo.account(12));
        argument(polo::read);
        due("the error position of an empty text", 0, polo::errorPosition);
    }

    @Holds(promise = 33, says = EMPTY)
    void theInputIsEmptyOnceItWasMalformed() {
        WhalePolo polo = twoWhales();
        argument(() -> readText(polo, "dx"));
        due("the length", 0, () -> polo.account(12));
        due("the next text", 1, () -> readText(polo, "d"));
    }

    @Holds(promise = 33, says = EMPTY)
    void theInputIsEmptyOnceACommandToldWhatThereIsNot() {
        WhalePolo polo = twoWhales();
        state(() -> readText(polo, "o9"));
        due("the length", 0, () -> polo.account(12));
        due("the next text", 1, () -> readText(polo, "d"));
    }

    @Holds(promise = 33, says = EMPTY)
    void theInputIsEmptyOnceACommandWasRefused() {
        WhalePolo polo = twoWhales();
        refusedCommand(7, 0, 0, polo, "m0@10");
        due("the length", 0, () -> polo.account(12));
        due("the next text", 1, () -> readText(polo, "d"));
    }

    @Holds(promise = 33, says = "It is one change.")
    void aTextOfManyCommandsIsOneChange() {
        WhalePolo polo = twoWhales();
        readText(polo, "d;d;d;d;d;d;d;d");
        due("changes", 3, () -> polo.account(13));
        due("undone", 2, polo::undo);
        due("the clock", 0, () -> polo.account(1));
    }

    @Holds(promise = 33, says = "It is one change.")
    void aTextOfOneCommandIsOneChange() {
        WhalePolo polo = twoWhales();
        readText(polo, "d");
        due("changes", 3, () -> polo.account(13));
    }

    @Holds(promise = 33, says = "Returns the number of commands.")
    void theNumbersOfCommandsAre1To30() {
        StringBuilder text = new StringBuilder();
        for (int commands = 1; commands <= 30; commands++) {
            text.append(commands == 1 ? "d" : ";d");
            String told = text.toString();
            due(told, commands, () -> readText(new WhalePolo(), told));
        }
    }

    @Holds(promise = 33, says = MALFORMED)
    void aMalformedTextKeepsItsErrorPosition() {
        WhalePolo polo = twoWhales();
        argument(() -> readText(polo, "m0@13;k0"));
        due("the error position", 8, polo::errorPosition);
        argument(polo::read);
        due("that of an empty one", 0, polo::errorPosition);
    }

    @Holds(promise = 33, says = MISSING)
    void aCommandTellsAWhaleThatThereIsNot() {
        for (String text : new String[] {"m2@1", "k2e1", "o2", "b20", "b02", "o9"}) {
            WhalePolo polo = twoWhales();
            due(text, "throws IllegalStateException", () -> readText(polo, text));
            none(() -> polo.reason(0));
            none(polo::errorPosition);
        }
    }

    @Holds(promise = 33, says = MISSING)
    void aCommandTellsACellThatThereIsNot() {
        WhalePolo polo = twoWhales();
        due("45", "throws IllegalStateException", () -> readText(polo, "m0@45"));
        due("99", "throws IllegalStateException", () -> readText(polo, "m0@99"));
        refusedCommand(5, 10, 0, polo, "m0@44");
    }

    @Holds(promise = 33, says = MISSING)
    void aCommandTellsANumberOutOfRange() {
        for (String text : new String[] {"w211", "w911", "w001", "w061", "w091", "w010", "w015", "w019", "k0e0", "k0e6",
            "k0e9"}) {
            WhalePolo polo = twoWhales();
            due(text, "throws IllegalStateException", () -> readText(polo, text));
        }
        due("the greatest", 2, () -> readText(new WhalePolo(), "w154;w011"));
    }

    @Holds(promise = 33, says = REFUSED)
    void aRefusedCommandKeepsItsReason() {
        WhalePolo polo = tenWhales();
        refusedCommand(1, 5, 0, polo, "w011");
        refusedCommand(7, 1, 1, polo, "d;m0@19");
        refusedCommand(9, 4, 2, polo, "d;d;k0e1");
        refusedCommand(3, 6, 0, polo, "o6");
        refusedCommand(12, 1, 0, polo, "b09");
        refusedCommand(14, 2, 3, polo, "b06;b60;d;b06");
    }

    @Holds(promise = 33, says = REFUSED)
    void aStrokeIsRefusedOnceTheGameIsOver() {
        WhalePolo polo = twoWhales();
        drift(polo, 47);
        refusedCommand(2, 48, 1, polo, "d;d");
        due("the clock", 47, () -> polo.account(1));
        due("the last one", 1, () -> readText(polo, "d"));
        refusedCommand(2, 48, 0, polo, "m0@11");
        due("a whale can come", 1, () -> readText(polo, "w011"));
    }

    // errorPosition.

    @Holds(promise = 34, says = KEPT_ERROR)
    void theErrorPositionStaysUntilTheNextOne() {
        WhalePolo polo = twoWhales();
        argument(() -> readText(polo, "d;x"));
        due("kept", 2, polo::errorPosition);
        due("asked again", 2, polo::errorPosition);
        readText(polo, "d");
        due("behind a good text", 2, polo::errorPosition);
        state(() -> readText(polo, "o9"));
        due("behind one that tells what there is not", 2, polo::errorPosition);
        attempt(polo, game -> readText(game, "o0;o0"));
        due("behind a refused one", 2, polo::errorPosition);
        argument(() -> readText(polo, "x"));
        due("the next one", 0, polo::errorPosition);
    }

    @Holds(promise = 34, says = KEPT_ERROR)
    void theErrorPositionIsThatOfTheLatestText() {
        WhalePolo polo = new WhalePolo();
        for (String text : new String[] {"w01", "", "dd", "w0123"}) {
            argument(() -> readText(polo, text));
        }
        due(4, polo::errorPosition);
    }

    @Holds(promise = 34, says = "Throws `NoSuchElementException` if none was kept")
    void noErrorPositionWasKept() {
        WhalePolo polo = twoWhales();
        none(polo::errorPosition);
        readText(polo, "d");
        none(polo::errorPosition);
        attempt(polo, game -> readText(game, "m0@16"));
        none(polo::errorPosition);
        attempt(polo, game -> readText(game, "m9@16"));
        none(polo::errorPosition);
    }

    // reason.

    @Holds(promise = 35, says = "Returns a number of the refusal that was kept last.")
    void theReasonIsTheLatest() {
        WhalePolo polo = twoWhales();
        refused(7, 1, polo, () -> polo.swim(0, 16));
        refused(9, 4, polo, () -> polo.strike(0, EAST, 1));
        due("asked again", "9 4 -1", () -> reasonOf(polo));
    }

    @Holds(promise = 35, says = "Returns a number of the refusal that was kept last.")
    void theReasonStaysByOtherCalls() {
        WhalePolo polo = twoWhales();
        refused(7, 1, polo, () -> polo.swim(0, 16));
        polo.swim(0, 11);
        attempt(polo, game -> game.swim(0, 45));
        attempt(polo, game -> game.best(0));
        attempt(polo, game -> readText(game, "o9"));
        attempt(polo, game -> readText(game, "x"));
        readText(polo, "d");
        polo.undo();
        due("7 1 -1", () -> reasonOf(polo));
    }

    @Holds(promise = 35, says = NUMBERS)
    void theNumberOfTheCommandIsFrom0() {
        WhalePolo polo = twoWhales();
        refusedCommand(7, 1, 0, polo, "m0@16");
        refusedCommand(7, 1, 1, polo, "d;m0@16");
        refusedCommand(7, 1, 10, polo, "d;d;d;d;d;d;d;d;d;d;m0@16;d");
    }

    @Holds(promise = 35, says = NUMBERS)
    void theNumberOfTheCommandIsMinus1ForAnotherCall() {
        WhalePolo polo = twoWhales();
        refusedCommand(7, 1, 1, polo, "d;m0@16");
        refused(7, 1, polo, () -> polo.swim(0, 16));
    }

    @Holds(promise = 35, says = "Throws `IllegalArgumentException` if what is not 0 to 2")
    void thereIsNoSuchNumberOfARefusal() {
        WhalePolo polo = twoWhales();
        for (int kept = 0; kept < 2; kept++) {
            for (int wrong : new int[] {-1, 3, 4, Integer.MIN_VALUE, Integer.MAX_VALUE}) {
                argument("the number " + wrong, () -> polo.reason(wrong));
            }
            attempt(polo, game -> game.swim(0, 16));
        }
    }

    @Holds(promise = 35, says = "Throws `NoSuchElementException` if none was kept")
    void noReasonWasKept() {
        WhalePolo polo = twoWhales();
        for (int what = 0; what < 3; what++) {
            int asked = what;
            none(() -> polo.reason(asked));
        }
        attempt(polo, game -> game.swim(2, 16));
        attempt(polo, game -> game.best(0));
        attempt(polo, game -> readText(game, "o9"));
        attempt(polo, game -> readText(game, "x"));
        none(() -> polo.reason(0));
    }
}
