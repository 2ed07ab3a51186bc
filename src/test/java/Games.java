/** Games to begin with, and how they are told, for the tests of the promises and of the sentences. */
abstract class Games {

    static final int NORTH = 0;
    static final int EAST = 1;
    static final int SOUTH = 2;
    static final int WEST = 3;

    /** Whales of team 0 (0 to 2) and of team 1 (3 to 5), all of strength 5 and speed 4. */
    static WhalePolo sixWhales() {
        WhalePolo polo = new WhalePolo();
        for (int whale = 0; whale < 6; whale++) {
            polo.whale(whale / 3, 5, 4);
        }
        return polo;
    }

    /** The whale 0 of team 0 on the cell 10, and the whale 1 of team 1 on the cell 16. */
    static WhalePolo twoWhales() {
        WhalePolo polo = new WhalePolo();
        polo.whale(0, 5, 4);
        polo.whale(1, 5, 4);
        return polo;
    }

    /** The six whales, and the calves 6 and 7 of team 0, 8 and 9 of team 1, of strength 5 and speed 4, too. */
    static WhalePolo tenWhales() {
        WhalePolo polo = sixWhales();
        for (int whale = 6; whale < 10; whale++) {
            polo.whale(whale / 8, 5, 4);
        }
        return polo;
    }

    /** One whale of team 0, of strength 5 and speed 4, that has swum to and fro by the row 1. */
    static WhalePolo withBreath(int breath) {
        WhalePolo polo = new WhalePolo();
        polo.whale(0, 5, 4);
        int cell = 10;
        for (int left = 20 - breath; left > 0; left -= 4) {
            int steps = Math.min(left, 4);
            cell += cell == 10 ? steps : -steps;
            polo.swim(0, cell);
        }
        return polo;
    }

    static void drift(WhalePolo polo, int strokes) {
        for (int stroke = 0; stroke < strokes; stroke++) {
            polo.drift();
        }
    }

    static void type(WhalePolo polo, String text) {
        for (int index = 0; index < text.length(); index++) {
            polo.append(text.charAt(index));
        }
    }

    static int readText(WhalePolo polo, String text) {
        type(polo, text);
        return polo.read();
    }

    static String lineOf(WhalePolo polo, int length) {
        StringBuilder line = new StringBuilder();
        for (int index = 0; index < length; index++) {
            line.append(polo.character(index));
        }
        return line.toString();
    }

    /** The whole line. */
    static String lineOf(WhalePolo polo) {
        StringBuilder line = new StringBuilder();
        String sign = Check.told(() -> polo.character(0));
        while (sign.length() == 1) {
            line.append(sign);
            sign = Check.told(() -> polo.character(line.length()));
        }
        return line.toString();
    }

    static String accountsOf(WhalePolo polo) {
        StringBuilder told = new StringBuilder();
        for (int account = 0; account < 14; account++) {
            told.append(account == 0 ? "" : " ").append(polo.account(account));
        }
        return told.toString();
    }

    static String whaleTold(WhalePolo polo, int whale) {
        StringBuilder told = new StringBuilder();
        for (int what = 0; what < 9; what++) {
            told.append(what == 0 ? "" : " ").append(polo.whaleOf(whale, what));
        }
        return told.toString();
    }

    /** All that was counted but the input and the changes, and the whales. */
    static String gameOf(WhalePolo polo) {
        StringBuilder told = new StringBuilder();
        for (int account = 0; account < 12; account++) {
            told.append(polo.account(account)).append(' ');
        }
        for (int whale = 0; whale < polo.account(0); whale++) {
            told.append(whaleTold(polo, whale)).append(' ');
        }
        return told.toString();
    }

    /** The buoy on 31, team 1 has the right, the whale 1 sings on 32, the whale 0 is on 22; the clock is 7. */
    static WhalePolo songAtBuoy() {
        WhalePolo polo = twoWhales();
        polo.swim(0, 13);
        polo.swim(1, 14);
        polo.swim(1, 23);
        polo.strike(1, SOUTH, 1);
        polo.swim(1, 32);
        polo.sing(1);
        polo.swim(0, 22);
        return polo;
    }

    /** The whale 0, of strength 3, on the cell 13 with one breath; the clock is 5. */
    static WhalePolo lastBreathAtBuoy() {
        WhalePolo polo = new WhalePolo();
        polo.whale(0, 3, 4);
        for (int swim = 0; swim < 4; swim++) {
            polo.swim(0, swim % 2 == 0 ? 14 : 10);
        }
        polo.swim(0, 13);
        return polo;
    }

    /** The same without breath, singing; the clock is 6. */
    static WhalePolo tiredAtBuoy() {
        WhalePolo polo = lastBreathAtBuoy();
        polo.sing(0);
        return polo;
    }
}
