/** Every promise of the document by its number: ordinary calls, the edges that it names, and wrong calls. */
public final class PromiseTest extends Games {

    private final Check check = new Check("PromiseTest");

    public static void main(String[] args) {
        PromiseTest test = new PromiseTest();
        test.promise1();
        test.promise2();
        test.promise3();
        test.promise3Refusals();
        test.promise4();
        test.promise4Refusals();
        test.promise4Stranded();
        test.promise5Ways();
        test.promise5Goals();
        test.promise5Fouls();
        test.promise5Nets();
        test.promise5Refusals();
        test.promise6();
        test.promise7();
        test.promise8();
        test.promise9();
        test.promise10();
        test.promises11And12();
        test.promise13();
        test.promises14And15();
        test.promise16();
        test.promises17And18();
        test.promises17And18Stops();
        test.promise19();
        test.promise20();
        test.promise21();
        test.promise22();
        test.promise23();
        test.promise24();
        test.promise25();
        test.promise26();
        test.promises27And28();
        test.promise29();
        test.promise30();
        test.promise31();
        test.promise32();
        test.promise33();
        test.promise33Malformed();
        test.promise34();
        test.promise35();
        test.promise36();
        test.promises37And38();
        test.check.end();
    }

    private void promise1() {
        WhalePolo polo = new WhalePolo();
        check.due("1 accounts", "0 0 0 0 0 22 -1 0 0 0 0 0 0 0", () -> accountsOf(polo));
        check.index("1 no whales", () -> polo.whaleOf(0, 0));
        check.due("1 at", -1, () -> polo.at(22));
        check.due("1 not dry", false, () -> polo.isDry(0));
        check.none("1 no line", () -> polo.character(0));
        check.none("1 no reason", () -> polo.reason(0));
        check.none("1 no error", polo::errorPosition);
        check.none("1 nothing to undo", polo::undo);
        check.state("1 nothing saved", polo::restore);
        WhalePolo other = new WhalePolo();
        polo.whale(0, 1, 1);
        check.due("1 objects are apart", 0, () -> other.account(0));
    }

    private void promise2() {
        WhalePolo polo = new WhalePolo();
        int[] cells = {10, 16, 19, 25, 28, 34, -1, -1, -1, -1};
        for (int whale = 0; whale < 10; whale++) {
            int number = whale;
            check.due("2 number", number, () -> polo.whale(number % 2, 1 + number / 2, 1 + number % 4));
            check.due("2 whale " + number, number % 2 + " " + (1 + number / 2) + " " + (1 + number % 4) + " 20 "
                + cells[number] + " 0 0 0 0", () -> whaleTold(polo, number));
        }
        check.refused("2 full", 1, 5, polo, () -> polo.whale(0, 1, 1));
        check.refused("2 full", 1, 5, polo, () -> polo.whale(1, 5, 4));
        check.argument("2 range ahead of refusal", () -> polo.whale(0, 6, 1));
        check.due("2 whales", 10, () -> polo.account(0));
        check.due("2 no stroke", 0, () -> polo.account(1));
        check.due("2 changes", 6, () -> polo.account(13));
        int[][] wrong = {{-1, 1, 1}, {2, 1, 1}, {0, 0, 1}, {0, 6, 1}, {0, 1, 0}, {1, 1, 5}, {0, -9, 1}, {0, 1, 99},
            {Integer.MIN_VALUE, 1, 1}, {Integer.MAX_VALUE, 1, 1}, {0, Integer.MAX_VALUE, 1}, {0, 1, Integer.MIN_VALUE}};
        for (int[] row : wrong) {
            check.argument("2 range", () -> new WhalePolo().whale(row[0], row[1], row[2]));
        }
        WhalePolo taken = new WhalePolo();
        taken.whale(0, 1, 4);
        taken.swim(0, 19);
        check.refused("2 the cell is taken", 7, 0, taken, () -> taken.whale(0, 1, 1));
        check.due("2 still one", 1, () -> taken.account(0));
        check.due("2 the other team", 1, () -> taken.whale(1, 1, 1));
        taken.swim(0, 12);
        check.due("2 free again", 2, () -> taken.whale(0, 1, 1));
        check.due("2 its cell", 19, () -> taken.whaleOf(2, 4));
        WhalePolo over = new WhalePolo();
        drift(over, 48);
        check.due("2 after the game", 0, () -> over.whale(1, 5, 4));
        check.due("2 in play", 16, () -> over.whaleOf(0, 4));
    }

    private void promise3() {
        WhalePolo polo = sixWhales();
        polo.whale(0, 2, 3);
        polo.whale(0, 3, 3);
        polo.whale(1, 3, 3);
        polo.swim(0, 11);
        polo.sing(0);
        check.due("3 one left", 1, () -> polo.swap(0, 6));
        check.due("3 the calf", "0 2 3 20 11 0 0 0 0", () -> whaleTold(polo, 6));
        check.due("3 the whale", "0 5 4 18 -1 0 0 0 0", () -> whaleTold(polo, 0));
        check.due("3 a stroke", 3, () -> polo.account(1));
        check.due("3 none left", 0, () -> polo.swap(6, 0));
        check.due("3 own breath, no song", "0 5 4 18 11 0 0 0 0", () -> whaleTold(polo, 0));
        check.due("3 other team", 1, () -> polo.swap(3, 8));
        check.due("3 so far", 3, () -> polo.account(9));
        check.refused("3 two made", 14, 2, polo, () -> polo.swap(0, 6));
        drift(polo, 6);
        check.due("3 ahead of the end", 0, () -> polo.swap(8, 3));
        check.due("3 the next chukka", 1, () -> polo.account(2));
        check.due("3 again", 1, () -> polo.swap(0, 6));
        check.due("3 again", 0, () -> polo.swap(1, 7));
        check.refused("3 how many of its team", 14, 4, polo, () -> polo.swap(2, 0));
        check.due("3 of both teams", 6, () -> polo.account(9));
        check.due("3 in play", 6, () -> polo.account(10));
        WhalePolo others = sixWhales();
        others.whale(1, 1, 1);
        others.swap(3, 6);
        others.swap(6, 3);
        check.refused("3 two made by team 1", 14, 2, others, () -> others.swap(3, 6));
        drift(others, 10);
        check.due("3 again by team 1", 1, () -> others.swap(3, 6));
        WhalePolo low = twoWhales();
        low.whale(0, 1, 1);
        low.whale(0, 1, 1);
        low.whale(0, 1, 1);
        low.swim(0, 1);
        drift(low, 6);
        check.due("3 stranded goes", 1, () -> low.swap(0, 4));
        check.due("3 stranded comes", 1, () -> low.whaleOf(4, 4));
    }

    private void promise3Refusals() {
        WhalePolo polo = sixWhales();
        polo.whale(0, 2, 3);
        polo.whale(1, 2, 3);
        for (int wrong : new int[] {-1, 8, 10, Integer.MIN_VALUE, Integer.MAX_VALUE}) {
            check.index("3 no such whale", () -> polo.swap(wrong, 6));
            check.index("3 no such calf", () -> polo.swap(0, wrong));
        }
        check.refused("3 on the bench", 3, 6, polo, () -> polo.swap(6, 7));
        check.refused("3 on the bench itself", 3, 6, polo, () -> polo.swap(6, 6));
        check.refused("3 two teams", 12, 1, polo, () -> polo.swap(0, 7));
        check.refused("3 two teams, and in play", 12, 0, polo, () -> polo.swap(3, 0));
        check.refused("3 in play", 13, 19, polo, () -> polo.swap(0, 1));
        check.refused("3 itself", 13, 10, polo, () -> polo.swap(0, 0));
        polo.swap(0, 6);
        polo.swap(6, 0);
        check.refused("3 in play ahead of two made", 13, 28, polo, () -> polo.swap(0, 2));
        check.due("3 no stroke by refusals", 2, () -> polo.account(1));
        drift(polo, 46);
        check.refused("3 over", 2, 48, polo, () -> polo.swap(6, 6));
        check.index("3 missing ahead of over", () -> polo.swap(0, 9));
    }

    private void promise4() {
        WhalePolo polo = sixWhales();
        check.due("4 steps", 2, () -> polo.swim(0, 12));
        check.due("4 the whale", "0 5 4 18 12 0 0 0 0", () -> whaleTold(polo, 0));
        check.due("4 a stroke", 1, () -> polo.account(1));
        check.due("4 left", -1, () -> polo.at(10));
        polo.sing(0);
        check.due("4 sings", 1, () -> polo.whaleOf(0, 5));
        check.due("4 farther", 4, () -> polo.swim(0, 24));
        check.due("4 sings no more", "0 5 4 13 24 0 0 0 0", () -> whaleTold(polo, 0));
        check.due("4 onto the buoy", 2, () -> polo.swim(0, 22));
        check.due("4 the buoy stays", 22, () -> polo.account(5));
        WhalePolo around = new WhalePolo();
        around.whale(0, 5, 4);
        around.whale(0, 5, 4);
        check.due("4 around another", 4, () -> around.swim(0, 28));
        WhalePolo last = twoWhales();
        drift(last, 11);
        check.due("4 ahead of the end", 4, () -> last.swim(0, 14));
        check.due("4 rested", 20, () -> last.whaleOf(0, 3));
    }

    private void promise4Refusals() {
        WhalePolo polo = sixWhales();
        polo.whale(0, 1, 1);
        for (int wrong : new int[] {-1, 7, Integer.MIN_VALUE, Integer.MAX_VALUE}) {
            check.index("4 no such whale", () -> polo.swim(wrong, 0));
        }
        for (int wrong : new int[] {-1, 45, 46, Integer.MIN_VALUE, Integer.MAX_VALUE}) {
            check.index("4 no such cell", () -> polo.swim(0, wrong));
        }
        check.refused("4 on the bench", 3, 6, polo, () -> polo.swim(6, 19));
        check.refused("4 taken", 7, 1, polo, () -> polo.swim(0, 19));
        check.refused("4 taken by itself", 7, 0, polo, () -> polo.swim(0, 10));
        check.refused("4 taken far away", 7, 5, polo, () -> polo.swim(0, 34));
        check.refused("4 too far", 5, 5, polo, () -> polo.swim(0, 15));
        check.refused("4 much too far", 5, 10, polo, () -> polo.swim(0, 44));
        drift(polo, 6);
        check.refused("4 dry ahead of too far", 8, 2, polo, () -> polo.swim(0, 44));
        check.refused("4 dry", 8, 2, polo, () -> polo.swim(0, 1));
        drift(polo, 42);
        check.refused("4 over", 2, 48, polo, () -> polo.swim(6, 0));
        check.index("4 missing ahead of over", () -> polo.swim(0, 45));
        WhalePolo tired = twoWhales();
        for (int swim = 0; swim < 4; swim++) {
            tired.swim(0, swim % 2 == 0 ? 14 : 10);
        }
        tired.swim(0, 12);
        check.refused("4 too little breath", 6, 2, tired, () -> tired.swim(0, 9));
        check.refused("4 too far ahead of too little breath", 5, 5, tired, () -> tired.swim(0, 9 + 9 + 9));
        check.due("4 with all its breath", 2, () -> tired.swim(0, 10));
        check.refused("4 no breath", 6, 0, tired, () -> tired.swim(0, 11));
        check.due("4 state is left", "0 5 4 0 10 0 0 0 0", () -> whaleTold(tired, 0));
    }

    private void promise4Stranded() {
        WhalePolo polo = sixWhales();
        polo.swim(0, 1);
        polo.swim(1, 10);
        drift(polo, 4);
        check.refused("4 stranded", 4, 1, polo, () -> polo.swim(0, 2));
        check.refused("4 stranded ahead of taken", 4, 1, polo, () -> polo.swim(0, 10));
        drift(polo, 4);
        check.refused("4 still stranded", 4, 1, polo, () -> polo.swim(0, 2));
        drift(polo, 1);
        check.due("4 wet again", 1, () -> polo.swim(0, 2));
        WhalePolo shut = sixWhales();
        shut.swim(0, 9);
        shut.swim(1, 10);
        shut.swim(2, 18);
        drift(shut, 3);
        check.refused("4 shut in", 5, -1, shut, () -> shut.swim(0, 20));
    }

    private void promise5Ways() {
        int[] ends = {13, 4, 4, 23, 24, 25, 26, 45, 31, 40, 40, 21, 20, 19, 18, 46};
        int[] ways = {NORTH, NORTH, NORTH, EAST, EAST, EAST, EAST, EAST, SOUTH, SOUTH, SOUTH, WEST, WEST, WEST, WEST,
            WEST};
        int[] forces = {1, 2, 3, 1, 2, 3, 4, 5, 1, 2, 3, 1, 2, 3, 4, 5};
        for (int row = 0; row < ends.length; row++) {
            WhalePolo polo = twoWhales();
            polo.swim(0, 13);
            int way = ways[row];
            int force = forces[row];
            int end = ends[row];
            check.due("5 way " + way + ", force " + force, end, () -> polo.strike(0, way, force));
            check.due("5 the buoy", end > 44 ? 22 : end, () -> polo.account(5));
            boolean isNets = force == 3 && (way == NORTH || way == SOUTH);
            check.due("5 the right", end > 44 ? -1 : isNets ? 1 : 0, () -> polo.account(6));
            check.due("5 the nets", isNets ? 1 : 0, () -> polo.account(11));
            check.due("5 the whale", "0 5 4 16 13 0 " + (end == 45 ? 1 : 0) + " 0 1", () -> whaleTold(polo, 0));
            check.due("5 the strikes", 1, () -> polo.account(7));
            check.due("5 a stroke", 2, () -> polo.account(1));
        }
    }

    private void promise5Goals() {
        WhalePolo polo = twoWhales();
        polo.swim(0, 13);
        polo.swim(1, 14);
        polo.strike(0, EAST, 5);
        check.due("5 goal of team 0", "1 0", () -> polo.account(3) + " " + polo.account(4));
        polo.strike(0, WEST, 5);
        check.due("5 own goal", "1 1", () -> polo.account(3) + " " + polo.account(4));
        check.due("5 no goal of the whale", 1, () -> polo.whaleOf(0, 6));
        polo.swim(1, 23);
        check.due("5 past the striking whale", 45, () -> polo.strike(1, EAST, 5));
        check.due("5 no goal of the other whale", 0, () -> polo.whaleOf(1, 6));
        check.due("5 to the other end", 46, () -> polo.strike(1, WEST, 5));
        check.due("5 goals", "2 2", () -> polo.account(3) + " " + polo.account(4));
        check.due("5 a goal of the other whale", 1, () -> polo.whaleOf(1, 6));
        check.due("5 no right", -1, () -> polo.account(6));
        WhalePolo last = twoWhales();
        last.swim(0, 13);
        drift(last, 10);
        check.due("5 ahead of the end", 24, () -> last.strike(0, EAST, 2));
        check.due("5 the end", "22 -1", () -> last.account(5) + " " + last.account(6));
        WhalePolo full = sixWhales();
        full.swim(0, 13);
        check.due("5 ahead of a whale", 24, () -> full.strike(0, EAST, 5));
        check.due("5 which keeps the right", 0, () -> full.account(6));
        check.due("5 no nets", 0, () -> full.account(11));
        full.swim(0, 24);
        check.due("5 at once ahead of a whale", 24, () -> full.strike(0, EAST, 1));
    }

    private void promise5Fouls() {
        WhalePolo polo = songAtBuoy();
        check.due("5 the buoy is ahead of the song", 31, () -> polo.strike(0, EAST, 5));
        check.due("5 a foul", "1 1", () -> polo.account(8) + " " + polo.whaleOf(0, 7));
        check.due("5 the right stays", 1, () -> polo.account(6));
        check.due("5 a foul out of the field", 22, () -> polo.strike(0, WEST, 5));
        check.due("5 no goal", "0 0", () -> polo.account(3) + " " + polo.account(4));
        check.due("5 two fouls", "2 2", () -> polo.account(8) + " " + polo.whaleOf(0, 7));
        check.due("5 the right stays by the end", 1, () -> polo.account(6));
        check.due("5 the buoy is in the middle", 22, () -> polo.account(5));
        check.due("5 the song is too far now", 21, () -> polo.strike(0, WEST, 1));
        check.due("5 so it is no foul", "2 0", () -> polo.account(8) + " " + polo.account(6));
        WhalePolo nets = songAtBuoy();
        check.due("5 a foul in the nets", 31, () -> nets.strike(0, SOUTH, 5));
        check.due("5 counted as both", "1 1 1", () -> nets.account(8) + " " + nets.account(11) + " " + nets.account(6));
        WhalePolo own = songAtBuoy();
        check.due("5 its own song", 31, () -> own.strike(1, EAST, 1) - 1);
        check.due("5 is no foul", "0 1", () -> own.account(8) + " " + own.account(6));
        WhalePolo free = twoWhales();
        free.swim(1, 14);
        free.swim(1, 23);
        free.sing(1);
        free.swim(0, 13);
        check.due("5 no right yet", 21, () -> free.strike(0, WEST, 1));
        check.due("5 so no foul", "0 0", () -> free.account(8) + " " + free.account(6));
        WhalePolo swum = songAtBuoy();
        swum.swim(1, 33);
        swum.swim(1, 32);
        check.due("5 the song ended", 30, () -> swum.strike(0, WEST, 1));
        check.due("5 no foul then", "0 0", () -> swum.account(8) + " " + swum.account(6));
    }

    private void promise5Nets() {
        WhalePolo polo = twoWhales();
        polo.swim(0, 13);
        drift(polo, 5);
        check.due("5 ahead of a dry cell", 13, () -> polo.strike(0, NORTH, 2));
        check.due("5 in the nets", "1 1", () -> polo.account(11) + " " + polo.account(6));
        WhalePolo corner = twoWhales();
        corner.swim(0, 13);
        corner.strike(0, NORTH, 2);
        corner.swim(0, 5);
        corner.strike(0, EAST, 3);
        check.due("5 along the edge", 7, () -> corner.account(5));
        corner.swim(0, 6);
        check.due("5 no goal in the corner", 8, () -> corner.strike(0, EAST, 5));
        check.due("5 but in the nets", "1 1 0", () -> corner.account(11) + " " + corner.account(6) + " "
            + corner.account(3));
        WhalePolo stranded = twoWhales();
        stranded.swim(0, 13);
        stranded.swim(1, 14);
        stranded.swim(1, 4);
        drift(stranded, 4);
        check.due("5 ahead of a stranded whale", 13, () -> stranded.strike(0, NORTH, 5));
        check.due("5 is not in the nets", "0 0", () -> stranded.account(11) + " " + stranded.account(6));
        WhalePolo other = twoWhales();
        other.swim(1, 13);
        check.due("5 nets by team 1", 4, () -> other.strike(1, NORTH, 5));
        check.due("5 give team 0 the right", "1 0", () -> other.account(11) + " " + other.account(6));
        WhalePolo low = twoWhales();
        low.swim(0, 13);
        low.strike(0, NORTH, 2);
        drift(low, 4);
        check.due("5 the buoy fell dry", "4 true", () -> low.account(5) + " " + low.isDry(4));
        check.due("5 to another dry cell", 4, () -> low.strike(0, WEST, 1));
        check.due("5 nets", "1 1", () -> low.account(11) + " " + low.account(6));
        check.due("5 out of the field", 4, () -> low.strike(0, NORTH, 1));
        check.due("5 to the south", 22, () -> low.strike(0, SOUTH, 2));
        check.due("5 nets so far", "2 0", () -> low.account(11) + " " + low.account(6));
    }

    private void promise5Refusals() {
        WhalePolo polo = new WhalePolo();
        polo.whale(0, 2, 4);
        polo.whale(0, 5, 4);
        polo.whale(0, 5, 4);
        polo.whale(0, 5, 4);
        for (int wrong : new int[] {-1, 4, 10, Integer.MIN_VALUE, Integer.MAX_VALUE}) {
            check.index("5 no such whale", () -> polo.strike(wrong, 9, 9));
        }
        for (int wrong : new int[] {-1, 4, Integer.MIN_VALUE, Integer.MAX_VALUE}) {
            check.argument("5 no such way", () -> polo.strike(0, wrong, 1));
        }
        for (int wrong : new int[] {-1, 0, 6, Integer.MIN_VALUE, Integer.MAX_VALUE}) {
            check.argument("5 no such force", () -> polo.strike(0, EAST, wrong));
        }
        check.refused("5 on the bench", 3, 3, polo, () -> polo.strike(3, EAST, 1));
        check.refused("5 too far", 9, 4, polo, () -> polo.strike(0, EAST, 5));
        check.refused("5 three columns", 9, 3, polo, () -> polo.strike(1, EAST, 1));
        polo.swim(0, 13);
        check.refused("5 not strong enough", 10, 2, polo, () -> polo.strike(0, EAST, 3));
        check.due("5 by its strength", 24, () -> polo.strike(0, EAST, 2));
        check.refused("5 too far again", 9, 3, polo, () -> polo.strike(0, EAST, 1));
        WhalePolo stranded = twoWhales();
        stranded.swim(0, 13);
        stranded.swim(0, 4);
        drift(stranded, 4);
        check.refused("5 stranded ahead of too far", 4, 4, stranded, () -> stranded.strike(0, EAST, 1));
        drift(stranded, 42);
        check.refused("5 over", 2, 48, stranded, () -> stranded.strike(0, EAST, 1));
        check.argument("5 range ahead of over", () -> stranded.strike(0, 4, 1));
        WhalePolo tired = tiredAtBuoy();
        check.refused("5 no breath", 6, 0, tired, () -> tired.strike(0, EAST, 1));
        check.refused("5 weak ahead of no breath", 10, 3, tired, () -> tired.strike(0, EAST, 4));
        check.due("5 no strike", 0, () -> tired.account(7));
        WhalePolo last = lastBreathAtBuoy();
        check.due("5 by its last breath", "23 0", () -> last.strike(0, EAST, 1) + " " + last.whaleOf(0, 3));
    }

    private void promise6() {
        WhalePolo polo = sixWhales();
        polo.whale(0, 1, 1);
        check.due("6 breath", 19, () -> polo.sing(0));
        check.due("6 sings", "1 19", () -> polo.whaleOf(0, 5) + " " + polo.whaleOf(0, 3));
        check.due("6 a stroke", 1, () -> polo.account(1));
        check.refused("6 sings already", 11, 0, polo, () -> polo.sing(0));
        check.refused("6 on the bench", 3, 6, polo, () -> polo.sing(6));
        for (int wrong : new int[] {-1, 7, Integer.MIN_VALUE, Integer.MAX_VALUE}) {
            check.index("6 no such whale", () -> polo.sing(wrong));
        }
        drift(polo, 10);
        check.due("6 ahead of the end", 19, () -> polo.sing(1));
        check.due("6 sings no more", "0 20", () -> polo.whaleOf(1, 5) + " " + polo.whaleOf(1, 3));
        check.due("6 nor the other one", "0 20", () -> polo.whaleOf(0, 5) + " " + polo.whaleOf(0, 3));
        drift(polo, 36);
        check.refused("6 over", 2, 48, polo, () -> polo.sing(6));
        WhalePolo stranded = twoWhales();
        stranded.swim(0, 1);
        drift(stranded, 6);
        check.due("6 stranded", 18, () -> stranded.sing(0));
        WhalePolo tired = tiredAtBuoy();
        check.refused("6 sings ahead of no breath", 11, 0, tired, () -> tired.sing(0));
        check.due("6 by its last breath", 0, () -> lastBreathAtBuoy().sing(0));
        WhalePolo silent = twoWhales();
        for (int swim = 0; swim < 5; swim++) {
            silent.swim(0, swim % 2 == 0 ? 14 : 10);
        }
        check.refused("6 no breath", 6, 0, silent, () -> silent.sing(0));
    }

    private void promise7() {
        WhalePolo polo = twoWhales();
        polo.swim(0, 14);
        polo.swim(0, 10);
        for (int clock = 3; clock <= 48; clock++) {
            int due = clock;
            check.due("7 the clock", due, polo::drift);
            check.due("7 the account", due, () -> polo.account(1));
            check.due("7 the chukka", due / 12, () -> polo.account(2));
            check.due("7 the breath", due < 12 ? 12 : due < 24 ? 17 : 20, () -> polo.whaleOf(0, 3));
        }
        check.refused("7 over", 2, 48, polo, polo::drift);
        check.due("7 no farther", 48, () -> polo.account(1));
        check.due("7 changes", 6, () -> polo.account(13));
        WhalePolo end = twoWhales();
        drift(end, 46);
        end.swim(0, 14);
        end.drift();
        check.due("7 rested by the last end, too", 20, () -> end.whaleOf(0, 3));
        WhalePolo chukka = twoWhales();
        chukka.swim(0, 13);
        chukka.strike(0, EAST, 2);
        drift(chukka, 9);
        check.due("7 until the end", "24 0", () -> chukka.account(5) + " " + chukka.account(6));
        chukka.drift();
        check.due("7 by the end", "22 -1", () -> chukka.account(5) + " " + chukka.account(6));
        WhalePolo bench = sixWhales();
        bench.whale(0, 1, 1);
        for (int swim = 0; swim < 4; swim++) {
            bench.swim(0, swim % 2 == 0 ? 14 : 10);
        }
        bench.swap(0, 6);
        drift(bench, 7);
        check.due("7 the bench rests, too", 9, () -> bench.whaleOf(0, 3));
    }

    private void promise8() {
        WhalePolo polo = songAtBuoy();
        polo.strike(0, EAST, 5);
        polo.strike(0, WEST, 5);
        check.due("8 the whale 0", "0 5 4 14 22 0 0 2 2", () -> whaleTold(polo, 0));
        check.due("8 the whale 1", "1 5 4 14 32 1 0 0 1", () -> whaleTold(polo, 1));
        for (int wrong : new int[] {-1, 2, 10, Integer.MIN_VALUE, Integer.MAX_VALUE}) {
            check.index("8 no such whale", () -> polo.whaleOf(wrong, 99));
        }
        for (int wrong : new int[] {-1, 9, Integer.MIN_VALUE, Integer.MAX_VALUE}) {
            check.argument("8 no such number", () -> polo.whaleOf(0, wrong));
        }
    }

    private void promise9() {
        WhalePolo polo = sixWhales();
        polo.whale(0, 1, 1);
        int[] cells = {10, 19, 28, 16, 25, 34};
        for (int cell = 0; cell < 45; cell++) {
            int asked = cell;
            int due = -1;
            for (int whale = 0; whale < cells.length; whale++) {
                due = cells[whale] == cell ? whale : due;
            }
            check.due("9 the cell " + cell, due, () -> polo.at(asked));
        }
        for (int wrong : new int[] {-1, 45, Integer.MIN_VALUE, Integer.MAX_VALUE}) {
            check.index("9 no such cell", () -> polo.at(wrong));
        }
    }

    private void promise10() {
        for (int clock = 0; clock <= 48; clock++) {
            WhalePolo polo = new WhalePolo();
            drift(polo, clock);
            boolean isLow = clock % 16 >= 6 && clock % 16 <= 10;
            for (int cell : new int[] {0, 4, 8, 36, 40, 44}) {
                check.due("10 the edge at " + clock, isLow, () -> polo.isDry(cell));
            }
            for (int cell : new int[] {9, 17, 22, 27, 35}) {
                check.due("10 never dry", false, () -> polo.isDry(cell));
            }
        }
        for (int wrong : new int[] {-1, 45, Integer.MIN_VALUE, Integer.MAX_VALUE}) {
            check.index("10 no such cell", () -> new WhalePolo().isDry(wrong));
        }
    }

    private void promises11And12() {
        WhalePolo polo = new WhalePolo();
        int[] heights = {8, 7, 6, 5, 4, 3, 2, 1, 0, 1, 2, 3, 4, 5, 6, 7, 8, 7};
        for (int clock = 0; clock < heights.length; clock++) {
            int asked = clock;
            check.due("11 the tide", heights[clock], () -> polo.tide(asked));
            check.due("12 the tide", heights[clock], () -> polo.tideAgain(asked));
        }
        for (int clock = 0; clock <= 999; clock += clock < 900 ? 37 : 1) {
            int asked = clock;
            check.due("11 the tide at " + clock, heights[clock % 16], () -> polo.tide(asked));
            check.due("12 the tide at " + clock, heights[clock % 16], () -> polo.tideAgain(asked));
        }
        for (int wrong : new int[] {-1, 1000, Integer.MIN_VALUE, Integer.MAX_VALUE}) {
            check.argument("11 no such clock", () -> polo.tide(wrong));
            check.argument("12 no such clock", () -> polo.tideAgain(wrong));
        }
    }

    private void promise13() {
        WhalePolo polo = new WhalePolo();
        int[] turns = {6, 5, 4, 3, 2, 1, 5, 4, 3, 2, 1, 11, 10, 9, 8, 7, 6, 5};
        for (int clock = 0; clock < turns.length; clock++) {
            check.due("13 turns at " + clock, turns[clock], () -> polo.turnsIn(8));
            check.due("13 turns at " + clock, turns[clock], () -> polo.turnsIn(36));
            check.none("13 never", () -> polo.turnsIn(9));
            check.none("13 never", () -> polo.turnsIn(35));
            polo.drift();
        }
        drift(polo, 30);
        check.due("13 after the game", 6, () -> polo.turnsIn(0));
        for (int wrong : new int[] {-1, 45, Integer.MIN_VALUE, Integer.MAX_VALUE}) {
            check.index("13 no such cell", () -> polo.turnsIn(wrong));
        }
    }

    private void dueSteps(String what, Object due, WhalePolo polo, int whale, int cell) {
        check.due("14 " + what, due, () -> polo.steps(whale, cell));
        check.due("15 " + what, due, () -> polo.stepsAgain(whale, cell));
    }

    private void promises14And15() {
        WhalePolo polo = sixWhales();
        polo.whale(0, 1, 1);
        String none = "throws NoSuchElementException";
        String index = "throws IndexOutOfBoundsException";
        dueSteps("to its own cell", 0, polo, 0, 10);
        dueSteps("beside", 1, polo, 0, 11);
        dueSteps("farther than its speed", 10, polo, 0, 44);
        dueSteps("around another", 4, polo, 1, 1);
        dueSteps("to a taken cell", none, polo, 0, 19);
        dueSteps("from the bench", none, polo, 6, 22);
        for (int wrong : new int[] {-1, 7, Integer.MIN_VALUE, Integer.MAX_VALUE}) {
            dueSteps("no such whale", index, polo, wrong, 0);
        }
        for (int wrong : new int[] {-1, 45, Integer.MIN_VALUE, Integer.MAX_VALUE}) {
            dueSteps("no such cell", index, polo, 6, wrong);
        }
        polo.swim(0, 1);
        polo.swim(1, 10);
        drift(polo, 4);
        dueSteps("stranded, to its own cell", 0, polo, 0, 1);
        dueSteps("stranded and shut in", none, polo, 0, 20);
        dueSteps("to a dry cell", none, polo, 1, 0);
        polo.swim(1, 11);
        dueSteps("stranded, beside", 1, polo, 0, 10);
        dueSteps("stranded, by the wet ones", 3, polo, 0, 18);
        dueSteps("to a dry cell", none, polo, 0, 2);
        drift(polo, 41);
        dueSteps("after the game", 8, polo, 0, 17);
    }

    private void promise16() {
        WhalePolo polo = new WhalePolo();
        polo.whale(0, 1, 1);
        check.due("16 alone", 4, () -> polo.reach(0));
        polo.whale(0, 1, 2);
        check.due("16 beside another", 3, () -> polo.reach(0));
        check.due("16 two steps", 9, () -> polo.reach(1));
        drift(polo, 6);
        check.due("16 by low tide", 2, () -> polo.reach(0));
        polo.whale(0, 1, 1);
        polo.whale(0, 1, 4);
        check.due("16 on the bench", 0, () -> polo.reach(3));
        for (int wrong : new int[] {-1, 4, Integer.MIN_VALUE, Integer.MAX_VALUE}) {
            check.index("16 no such whale", () -> polo.reach(wrong));
        }
        drift(polo, 42);
        check.due("16 over", 0, () -> polo.reach(0));
        WhalePolo tired = twoWhales();
        for (int swim = 0; swim < 4; swim++) {
            tired.swim(0, swim % 2 == 0 ? 14 : 10);
        }
        check.due("16 by its speed", 22, () -> tired.reach(0));
        tired.swim(0, 13);
        check.due("16 by its breath", 4, () -> tired.reach(0));
        tired.swim(0, 4);
        check.due("16 without breath", 0, () -> tired.reach(0));
        WhalePolo stranded = twoWhales();
        stranded.swim(0, 1);
        drift(stranded, 6);
        check.due("16 stranded", 0, () -> stranded.reach(0));
        drift(stranded, 4);
        check.due("16 wet again", true, () -> stranded.reach(0) > 0);
    }

    private void dueEnd(String what, Object due, WhalePolo polo, int whale, int way, int force) {
        check.due("17 " + what, due, () -> polo.would(whale, way, force));
        check.due("18 " + what, due, () -> polo.wouldAgain(whale, way, force));
    }

    private void promises17And18() {
        WhalePolo polo = sixWhales();
        polo.whale(0, 1, 1);
        String index = "throws IndexOutOfBoundsException";
        String argument = "throws IllegalArgumentException";
        dueEnd("far away", 23, polo, 0, EAST, 1);
        dueEnd("ahead of a whale", 24, polo, 0, EAST, 5);
        dueEnd("ahead of another whale", 20, polo, 0, WEST, 5);
        dueEnd("the striking one does not stop it", 46, polo, 1, WEST, 5);
        dueEnd("nor there", 45, polo, 4, EAST, 5);
        dueEnd("up to it", 19, polo, 1, WEST, 3);
        dueEnd("from the bench, by more than its strength", 4, polo, 6, NORTH, 5);
        dueEnd("to the south", 40, polo, 6, SOUTH, 2);
        for (int wrong : new int[] {-1, 7, Integer.MIN_VALUE, Integer.MAX_VALUE}) {
            dueEnd("no such whale", index, polo, wrong, 9, 9);
        }
        for (int wrong : new int[] {-1, 4, Integer.MIN_VALUE, Integer.MAX_VALUE}) {
            dueEnd("no such way", argument, polo, 0, wrong, 1);
        }
        for (int wrong : new int[] {-1, 0, 6, Integer.MIN_VALUE, Integer.MAX_VALUE}) {
            dueEnd("no such force", argument, polo, 0, 0, wrong);
        }
        check.due("17 no stroke", "0 22", () -> polo.account(1) + " " + polo.account(5));
        drift(polo, 6);
        dueEnd("ahead of a dry cell", 13, polo, 0, NORTH, 5);
        dueEnd("ahead of a dry cell", 31, polo, 0, SOUTH, 2);
        dueEnd("up to it", 31, polo, 0, SOUTH, 1);
        drift(polo, 42);
        dueEnd("after the game", 40, polo, 0, SOUTH, 4);
        WhalePolo foul = songAtBuoy();
        dueEnd("a foul", 22, foul, 0, WEST, 5);
        dueEnd("a foul up to the end", 27, foul, 0, WEST, 4);
        dueEnd("an own song is none", 46, foul, 1, WEST, 5);
        dueEnd("a foul to the dry edge", 31, foul, 0, SOUTH, 5);
        WhalePolo edge = twoWhales();
        edge.swim(0, 13);
        edge.strike(0, NORTH, 2);
        dueEnd("along the edge", 7, edge, 0, EAST, 3);
        dueEnd("no goal by the edge", 8, edge, 0, EAST, 5);
        dueEnd("no goal by the edge", 0, edge, 1, WEST, 5);
        drift(edge, 4);
        dueEnd("along the dry edge", 4, edge, 0, EAST, 3);
        dueEnd("along the dry edge", 4, edge, 0, WEST, 1);
        dueEnd("out of the dry edge", 4, edge, 0, NORTH, 1);
        dueEnd("away from it", 22, edge, 0, SOUTH, 2);
    }

    private void promises17And18Stops() {
        WhalePolo polo = twoWhales();
        polo.swim(0, 4);
        polo.swim(1, 14);
        polo.swim(1, 40);
        dueEnd("ahead of a whale in the north", 13, polo, 1, NORTH, 5);
        dueEnd("ahead of a whale in the south", 31, polo, 0, SOUTH, 5);
        dueEnd("past itself in the north", 4, polo, 0, NORTH, 5);
        dueEnd("past itself in the south", 40, polo, 1, SOUTH, 5);
        drift(polo, 3);
        dueEnd("ahead of a stranded whale in the north", 13, polo, 1, NORTH, 5);
        dueEnd("ahead of itself, stranded in the north", 13, polo, 0, NORTH, 5);
        WhalePolo east = twoWhales();
        east.swim(1, 14);
        east.swim(1, 22);
        east.sing(1);
        east.strike(1, EAST, 1);
        dueEnd("a foul by the east end", 22, east, 0, EAST, 4);
        dueEnd("a foul ahead of the east end", 26, east, 0, EAST, 3);
        dueEnd("no foul by the east end", 45, east, 1, EAST, 4);
    }

    private void promise19() {
        WhalePolo polo = songAtBuoy();
        polo.whale(0, 1, 1);
        check.due("19 a foul", true, () -> polo.wouldFoul(0));
        check.due("19 of a whale far away", true, () -> polo.wouldFoul(2));
        check.due("19 not of the own team", false, () -> polo.wouldFoul(1));
        polo.swim(1, 33);
        check.due("19 no song", false, () -> polo.wouldFoul(0));
        polo.sing(1);
        check.due("19 a song far away", false, () -> polo.wouldFoul(0));
        for (int wrong : new int[] {-1, 3, Integer.MIN_VALUE, Integer.MAX_VALUE}) {
            check.index("19 no such whale", () -> polo.wouldFoul(wrong));
        }
        WhalePolo on = twoWhales();
        on.swim(1, 14);
        on.swim(1, 23);
        on.swim(1, 22);
        on.sing(1);
        check.due("19 no right", false, () -> on.wouldFoul(0));
        on.strike(1, EAST, 1);
        check.due("19 the right, and a song beside", true, () -> on.wouldFoul(0));
        on.strike(1, WEST, 1);
        check.due("19 the right, and a song on its cell", true, () -> on.wouldFoul(0));
        drift(on, 6);
        check.due("19 by the end", false, () -> on.wouldFoul(0));
    }

    private void promise20() {
        WhalePolo polo = twoWhales();
        check.none("20 too far", () -> polo.best(0));
        polo.swim(0, 13);
        check.due("20 a goal", 15, () -> polo.best(0));
        polo.swim(1, 14);
        polo.swim(1, 23);
        check.due("20 a goal to the west", 35, () -> polo.best(1));
        check.due("20 stopped at once: as near by all", 1, () -> polo.best(0));
        WhalePolo weak = new WhalePolo();
        weak.whale(0, 3, 4);
        weak.whale(1, 2, 4);
        weak.swim(0, 13);
        weak.swim(1, 14);
        weak.swim(1, 23);
        check.due("20 as near as it can", 32, () -> weak.best(1));
        weak.swim(0, 21);
        check.due("20 all as near: the lowest way", 1, () -> weak.best(1));
        weak.swim(1, 14);
        check.due("20 to the east", 13, () -> weak.best(0));
        for (int wrong : new int[] {-1, 2, Integer.MIN_VALUE, Integer.MAX_VALUE}) {
            check.index("20 no such whale", () -> weak.best(wrong));
        }
        check.none("20 no breath", () -> tiredAtBuoy().best(0));
        WhalePolo bench = sixWhales();
        bench.whale(0, 1, 1);
        check.none("20 on the bench", () -> bench.best(6));
        bench.swim(0, 13);
        check.due("20 before the end", 12, () -> bench.best(0));
        drift(bench, 47);
        check.none("20 over", () -> bench.best(0));
        WhalePolo stranded = twoWhales();
        stranded.swim(0, 13);
        stranded.strike(0, NORTH, 2);
        stranded.swim(0, 3);
        check.due("20 along the edge", 14, () -> stranded.best(0));
        drift(stranded, 3);
        check.none("20 stranded", () -> stranded.best(0));
        WhalePolo least = new WhalePolo();
        least.whale(0, 1, 4);
        least.swim(0, 13);
        check.due("20 the least strength", 11, () -> least.best(0));
        WhalePolo away = twoWhales();
        away.swim(0, 13);
        away.strike(0, WEST, 4);
        away.swim(0, 19);
        check.due("20 from its own end", 15, () -> away.best(0));
        check.due("20 by its last breath", 13, () -> lastBreathAtBuoy().best(0));
        WhalePolo foul = songAtBuoy();
        check.due("20 a foul is no goal", 1, () -> foul.best(0));
        check.due("20 a goal of its own song", 35, () -> foul.best(1));
    }

    private void promise21() {
        WhalePolo polo = sixWhales();
        check.due("21 none", "0 0", () -> polo.beside(0) + " " + polo.beside(1));
        polo.swim(0, 13);
        check.due("21 beside", "1 0", () -> polo.beside(0) + " " + polo.beside(1));
        polo.swim(1, 22);
        check.due("21 on it", "2 0", () -> polo.beside(0) + " " + polo.beside(1));
        polo.swim(4, 23);
        check.due("21 both teams", "2 1", () -> polo.beside(0) + " " + polo.beside(1));
        polo.swim(3, 14);
        check.due("21 not across the corner", "2 1", () -> polo.beside(0) + " " + polo.beside(1));
        for (int wrong : new int[] {-1, 2, Integer.MIN_VALUE, Integer.MAX_VALUE}) {
            check.argument("21 no such team", () -> polo.beside(wrong));
        }
    }

    private static String order(WhalePolo polo, int kind) {
        StringBuilder told = new StringBuilder();
        for (int place = 0; place < polo.account(0); place++) {
            told.append(polo.ranked(kind, place));
        }
        return told.toString();
    }

    private void promise22() {
        WhalePolo polo = new WhalePolo();
        polo.whale(0, 1, 4);
        polo.whale(1, 5, 4);
        polo.whale(0, 5, 3);
        polo.whale(1, 4, 4);
        polo.whale(0, 5, 4);
        check.due("22 all alike", "01234", () -> order(polo, 0));
        check.due("22 by strength and speed", "14230", () -> order(polo, 4));
        polo.swim(1, 15);
        polo.swim(0, 12);
        check.due("22 by breath", "23410", () -> order(polo, 0));
        WhalePolo foul = songAtBuoy();
        foul.whale(0, 5, 4);
        foul.strike(0, EAST, 1);
        check.due("22 by fouls", "012", () -> order(foul, 2));
        check.due("22 by strikes", "012", () -> order(foul, 3));
        foul.strike(1, WEST, 5);
        check.due("22 by goals", "102", () -> order(foul, 1));
        check.due("22 by strikes", "102", () -> order(foul, 3));
        for (int wrong : new int[] {-1, 5, Integer.MIN_VALUE, Integer.MAX_VALUE}) {
            check.argument("22 no such order", () -> polo.ranked(wrong, 99));
        }
        for (int wrong : new int[] {-1, 5, Integer.MIN_VALUE, Integer.MAX_VALUE}) {
            check.none("22 no such place", () -> polo.ranked(0, wrong));
        }
        check.none("22 no whales", () -> new WhalePolo().ranked(0, 0));
    }

    private void promise23() {
        WhalePolo polo = sixWhales();
        check.none("23 none", () -> polo.calf(0));
        polo.whale(0, 2, 1);
        polo.whale(0, 3, 1);
        check.due("23 the stronger", 7, () -> polo.calf(0));
        check.none("23 none of the other team", () -> polo.calf(1));
        polo.whale(1, 3, 1);
        polo.whale(1, 3, 4);
        check.due("23 the lowest", 8, () -> polo.calf(1));
        polo.swim(0, 11);
        polo.swap(0, 7);
        check.due("23 the most breath", 6, () -> polo.calf(0));
        polo.swap(1, 6);
        check.due("23 back on the bench", 1, () -> polo.calf(0));
        WhalePolo other = sixWhales();
        other.whale(0, 5, 4);
        other.swap(0, 6);
        check.due("23 the whale 0", 0, () -> other.calf(0));
        for (int wrong : new int[] {-1, 2, Integer.MIN_VALUE, Integer.MAX_VALUE}) {
            check.argument("23 no such team", () -> polo.calf(wrong));
        }
    }

    private void promise24() {
        WhalePolo polo = twoWhales();
        check.due("24 none", -1, polo::leader);
        polo.swim(0, 13);
        polo.strike(0, EAST, 5);
        check.due("24 the team 0", 0, polo::leader);
        polo.strike(0, WEST, 5);
        check.due("24 as many", -1, polo::leader);
        polo.strike(0, WEST, 5);
        check.due("24 the team 1", 1, polo::leader);
    }

    private void promise25() {
        WhalePolo polo = new WhalePolo();
        check.due("25 new", true, polo::isFair);
        WhalePolo foul = songAtBuoy();
        check.due("25 with a song", true, foul::isFair);
        drift(foul, 2);
        check.due("25 by low tide", true, foul::isFair);
        WhalePolo full = sixWhales();
        for (int whale = 0; whale < 4; whale++) {
            full.whale(whale % 2, 1, 1);
        }
        check.due("25 full", true, full::isFair);
        full.swap(0, 6);
        check.due("25 substituted", true, full::isFair);
        check.due("25 it asks only", "1 22 6", () -> full.account(1) + " " + full.account(5) + " " + full.account(13));
        drift(full, 47);
        check.due("25 over", true, full::isFair);
    }

    private void promise26() {
        WhalePolo polo = sixWhales();
        String[] rows = {".........", ".0.....3.", ".1..o..4.", ".2.....5.", "........."};
        for (int y = 0; y < 5; y++) {
            int asked = y;
            check.due("26 its length", 9, () -> polo.row(asked));
            check.due("26 the row", rows[y], () -> lineOf(polo, 9));
        }
        polo.swim(0, 13);
        polo.swim(0, 22);
        polo.row(2);
        check.due("26 the whale ahead of the buoy", ".1..0..4.", () -> lineOf(polo, 9));
        polo.strike(0, NORTH, 2);
        polo.swim(1, 18);
        polo.swim(2, 36);
        drift(polo, 1);
        polo.row(0);
        check.due("26 the buoy ahead of dry", "____o____", () -> lineOf(polo, 9));
        polo.row(4);
        check.due("26 the whale ahead of dry", "2________", () -> lineOf(polo, 9));
        for (int wrong : new int[] {-1, 5, Integer.MIN_VALUE, Integer.MAX_VALUE}) {
            check.index("26 no such row", () -> polo.row(wrong));
        }
        check.due("26 the line is left", "2________", () -> lineOf(polo, 9));
        polo.undo();
        check.due("26 undo leaves the line", "2________", () -> lineOf(polo, 9));
    }

    private void promises27And28() {
        WhalePolo polo = sixWhales();
        polo.whale(0, 4, 2);
        check.due("27 its length", 13, () -> polo.tell(0));
        check.due("27 in play", "0:0^5/4%20@10", () -> lineOf(polo, 13));
        check.none("28 the end of the line", () -> polo.character(13));
        polo.sing(3);
        check.due("27 its length", 14, () -> polo.tell(3));
        check.due("27 sings", "3:1^5/4%19@16!", () -> lineOf(polo, 14));
        check.due("27 its length", 10, () -> polo.tell(6));
        check.due("27 on the bench", "6:0^4/2%20", () -> lineOf(polo, 10));
        check.none("28 in place of the line before", () -> polo.character(10));
        for (int swim = 0; swim < 3; swim++) {
            polo.swim(0, swim % 2 == 0 ? 14 : 10);
        }
        polo.swim(0, 4);
        check.due("27 its length", 11, () -> polo.tell(0));
        check.due("27 one digit", "0:0^5/4%6@4", () -> lineOf(polo, 11));
        for (int wrong : new int[] {-1, 7, Integer.MIN_VALUE, Integer.MAX_VALUE}) {
            check.index("27 no such whale", () -> polo.tell(wrong));
            check.none("28 no such character", () -> polo.character(wrong == 7 ? 11 : wrong));
        }
        check.due("28 a character", ':', () -> polo.character(1));
        check.none("28 an empty line", () -> new WhalePolo().character(0));
    }

    private void promise29() {
        WhalePolo polo = new WhalePolo();
        check.due("29 none", "throws ArithmeticException", polo::meanBreath);
        polo.whale(0, 1, 4);
        check.due("29 one", 20.0, polo::meanBreath);
        polo.whale(0, 1, 4);
        polo.whale(0, 1, 4);
        polo.whale(0, 1, 4);
        polo.swim(0, 11);
        check.due("29 the mean", 59.0 / 3.0, polo::meanBreath);
        polo.swap(0, 3);
        check.due("29 without the bench", 20.0, polo::meanBreath);
    }

    private void promise30() {
        WhalePolo polo = songAtBuoy();
        check.due("30 no foul", 0.0f, polo::foulShare);
        polo.strike(0, EAST, 1);
        check.due("30 one of two", 0.5f, polo::foulShare);
        polo.strike(0, EAST, 1);
        check.due("30 two of three", 2.0f / 3.0f, polo::foulShare);
        check.due("30 none", "throws ArithmeticException", new WhalePolo()::foulShare);
    }

    private void promise31() {
        WhalePolo polo = songAtBuoy();
        polo.whale(0, 1, 1);
        polo.whale(0, 1, 1);
        polo.whale(0, 1, 1);
        polo.swap(2, 4);
        polo.append('x');
        check.due("31 accounts", "5 8 0 0 0 31 1 1 0 1 4 0 1 6", () -> accountsOf(polo));
        polo.strike(0, SOUTH, 5);
        check.due("31 a foul in the nets", "5 9 0 0 0 31 1 2 1 1 4 1 1 6", () -> accountsOf(polo));
        polo.strike(1, EAST, 5);
        check.due("31 a goal", "5 10 0 1 0 22 -1 3 1 1 4 1 1 6", () -> accountsOf(polo));
        drift(polo, 38);
        check.due("31 over", "5 48 4 1 0 22 -1 3 1 1 4 1 1 6", () -> accountsOf(polo));
        for (int wrong : new int[] {-1, 14, 15, 17, Integer.MIN_VALUE, Integer.MAX_VALUE}) {
            check.argument("31 no such account", () -> polo.account(wrong));
        }
    }

    private void promise32() {
        WhalePolo polo = new WhalePolo();
        for (char wrong : new char[] {0, 31, 127, 128, 233, 0xFFFF}) {
            check.argument("32 no such character", () -> polo.append(wrong));
        }
        for (int length = 1; length <= 60; length++) {
            char sign = length == 1 ? ' ' : length == 2 ? '~' : 'd';
            check.due("32 its length", length, () -> polo.append(sign));
        }
        check.state("32 full", () -> polo.append('d'));
        check.argument("32 range ahead of full", () -> polo.append((char) 31));
        check.due("32 the account", 60, () -> polo.account(12));
        check.due("32 no change", 0, () -> polo.account(13));
        polo.whale(0, 1, 1);
        polo.undo();
        check.due("32 undo leaves the input", 60, () -> polo.account(12));
    }

    private void promise33() {
        WhalePolo polo = new WhalePolo();
        check.due("33 commands", 6, () -> readText(polo, "w054;w132;w011;w041;w023;d"));
        check.due("33 the input is empty", 0, () -> polo.account(12));
        check.due("33 one change", 1, () -> polo.account(13));
        check.due("33 all commands", 5, () -> readText(polo, "m0@13;k0e2;o0;b04;m1@7"));
        check.due("33 accounts", "5 6 0 0 0 24 0 1 0 1 4 0 0 2", () -> accountsOf(polo));
        check.due("33 the substitute", "0 2 3 20 13 0 0 0 0", () -> whaleTold(polo, 4));
        check.due("33 the other one", "1 3 2 19 7 0 0 0 0", () -> whaleTold(polo, 1));
        check.due("33 the whale", "0 5 4 15 -1 0 0 0 1", () -> whaleTold(polo, 0));
        check.due("33 undone at once", 1, polo::undo);
        check.due("33 as before", "5 1 0 0 0 22 -1 0 0 0 4 0 0 1", () -> accountsOf(polo));
        check.due("33 two digits", 1, () -> readText(polo, "m0@01"));
        check.due("33 the cell", 1, () -> polo.whaleOf(0, 4));
        String[] missing = {"m9@1", "m0@45", "m0@99", "k5e1", "o9", "b09", "b90", "w211", "w101", "w160", "w061", "w010",
            "w015", "k0e0", "k0e6", "d;d;m8@9", "w011;w111;o7", "m0@0;o6"};
        String before = accountsOf(polo);
        for (String text : missing) {
            check.state("33 " + text, () -> readText(polo, text));
            check.due("33 none of them, " + text, "5 2 2", () -> polo.account(0) + " " + polo.account(1) + " "
                + polo.account(13));
        }
        check.none("33 no reason by these", () -> polo.reason(0));
        check.refused("33 refused", 3, 4, 1, polo, () -> readText(polo, "d;m4@9"));
        check.refused("33 refused", 9, 4, 2, polo, () -> readText(polo, "m0@2;d;k0e1"));
        check.refused("33 the first one decides", 11, 0, 1, polo, () -> readText(polo, "o0;o0;o9"));
        check.state("33 the first one decides", () -> readText(polo, "o0;o9;o0"));
        check.due("33 none of them", before, () -> accountsOf(polo));
        check.due("33 the reason stays", "11 0 1", () -> polo.reason(0) + " " + polo.reason(1) + " " + polo.reason(2));
        WhalePolo ways = new WhalePolo();
        readText(ways, "w054;m0@13;k0w2");
        check.due("33 to the west", 20, () -> ways.account(5));
        readText(ways, "m0@21;k0s1");
        check.due("33 to the south", 29, () -> ways.account(5));
        readText(ways, "m0@20;k0n1");
        check.due("33 to the north", 20, () -> ways.account(5));
        WhalePolo full = new WhalePolo();
        check.due("33 thirty commands", 30, () -> readText(full, "d;d;d;d;d;d;d;d;d;d;d;d;d;d;d;d;d;d;d;d;d;d;d;d;d;d;d;d;d;d"));
        check.refused("33 over", 2, 48, 18, full, () -> readText(full, "d;d;d;d;d;d;d;d;d;d;d;d;d;d;d;d;d;d;d;d"));
        check.due("33 the clock", 30, () -> full.account(1));
        WhalePolo five = new WhalePolo();
        check.refused("33 five whales", 1, 5, 5, five, () -> readText(five, "w111;w111;w111;w111;w111;w111"));
        check.due("33 none of them", 0, () -> five.account(0));
    }

    private void promise33Malformed() {
        String[] texts = {"", "q", "w", "w0", "w01", "w0123", "wx", "w0 1", "m", "m0", "m0@", "m0@123", "m00", "m@", "m0@;",
            "k", "k0", "k0x", "k0e", "k0ee", "k0e12", "o", "o12", "ox", "b", "b0", "b012", "b0;", "d;", "dd", "d d", "d;;d",
            ";d", "d;q", "d;w011;", "D", " d", "d ", "m0@1;m", "k0E1", "m1 @1", "o0;b1x"};
        int[] errors = {0, 0, 1, 2, 3, 4, 1, 2, 1, 2, 3, 5, 2, 1, 3,
            1, 2, 2, 3, 3, 4, 1, 2, 1, 1, 2, 3, 2, 2, 1, 1, 2,
            0, 2, 7, 0, 0, 1, 6, 2, 2, 5};
        WhalePolo polo = twoWhales();
        for (int row = 0; row < texts.length; row++) {
            String text = texts[row];
            check.argument("33 malformed " + text, () -> readText(polo, text));
            check.due("34 the error position of " + text, errors[row], polo::errorPosition);
            check.due("33 the input is empty", 0, () -> polo.account(12));
            check.due("33 no change", "2 0", () -> polo.account(13) + " " + polo.account(1));
        }
        check.none("33 no reason", () -> polo.reason(0));
        check.argument("33 malformed ahead of refused", () -> readText(polo, "m0@10;x"));
        check.argument("33 malformed ahead of missing", () -> readText(polo, "o9;"));
        check.argument("33 full and malformed",
            () -> readText(polo, "d;d;d;d;d;d;d;d;d;d;d;d;d;d;d;d;d;d;d;d;d;d;d;d;d;d;d;d;d;d;"));
        check.due("34 its length", 60, polo::errorPosition);
    }

    private void promise34() {
        WhalePolo polo = new WhalePolo();
        check.none("34 none", polo::errorPosition);
        readText(polo, "d");
        check.none("34 none still", polo::errorPosition);
        Check.told(() -> readText(polo, "dx"));
        check.due("34 kept", 1, polo::errorPosition);
        readText(polo, "d");
        polo.undo();
        polo.save();
        polo.restore();
        check.due("34 stays", 1, polo::errorPosition);
        Check.told(() -> readText(polo, "o9"));
        check.due("34 stays by another exception", 1, polo::errorPosition);
        Check.told(() -> readText(polo, "d;d;"));
        check.due("34 the next one", 4, polo::errorPosition);
    }

    private void promise35() {
        WhalePolo polo = twoWhales();
        check.none("35 none", () -> polo.reason(0));
        check.none("35 none", () -> polo.reason(2));
        for (int wrong : new int[] {-1, 3, Integer.MIN_VALUE, Integer.MAX_VALUE}) {
            check.argument("35 no such number", () -> polo.reason(wrong));
        }
        check.refused("35 kept", 7, 1, polo, () -> polo.swim(0, 16));
        polo.drift();
        polo.undo();
        polo.save();
        polo.restore();
        check.due("35 stays", "7 1 -1", () -> polo.reason(0) + " " + polo.reason(1) + " " + polo.reason(2));
        check.index("35 no refusal", () -> polo.swim(0, 45));
        check.none("35 no refusal", () -> polo.best(0));
        check.due("35 stays", "7 1 -1", () -> polo.reason(0) + " " + polo.reason(1) + " " + polo.reason(2));
        check.refused("35 of a text", 5, 5, 0, polo, () -> readText(polo, "m0@15"));
        check.refused("35 of a call again", 9, 4, polo, () -> polo.strike(0, 0, 1));
        check.argument("35 still no such number", () -> polo.reason(3));
    }

    private void promise36() {
        WhalePolo polo = new WhalePolo();
        check.none("36 none", polo::undo);
        polo.whale(0, 5, 4);
        polo.swim(0, 13);
        polo.sing(0);
        polo.strike(0, EAST, 5);
        polo.drift();
        check.due("36 remembered", 5, () -> polo.account(13));
        check.due("36 the drift", "4 3", () -> polo.undo() + " " + polo.account(1));
        check.due("36 the strike", "3 0 0", () -> polo.undo() + " " + polo.account(3) + " " + polo.account(7));
        check.due("36 as before", "0 5 4 16 13 1 0 0 0", () -> whaleTold(polo, 0));
        check.due("36 the song", "2 0 5 4 17 13 0 0 0 0", () -> polo.undo() + " " + whaleTold(polo, 0));
        check.due("36 the swim", "1 0 5 4 20 10 0 0 0 0", () -> polo.undo() + " " + whaleTold(polo, 0));
        check.due("36 the whale", "0 0", () -> polo.undo() + " " + polo.account(0));
        check.none("36 none more", polo::undo);
        drift(polo, 8);
        check.due("36 six at most", 6, () -> polo.account(13));
        for (int left = 5; left >= 0; left--) {
            int due = left;
            check.due("36 back", due + " " + (due + 2), () -> polo.undo() + " " + polo.account(1));
        }
        check.none("36 the oldest are forgotten", polo::undo);
        check.due("36 the clock", 2, () -> polo.account(1));
        drift(polo, 10);
        check.due("36 by the end", 1, () -> polo.account(2));
        polo.undo();
        check.due("36 behind the end", 0, () -> polo.account(2));
        WhalePolo failed = twoWhales();
        Check.told(() -> failed.swim(0, 16));
        Check.told(() -> readText(failed, "d;o9"));
        check.due("36 no change by exceptions", 2, () -> failed.account(13));
        WhalePolo swapped = sixWhales();
        swapped.whale(0, 1, 1);
        swapped.swap(0, 6);
        swapped.swap(6, 0);
        swapped.undo();
        check.due("36 the substitutions", 0, () -> swapped.swap(6, 0));
    }

    private void promises37And38() {
        WhalePolo polo = twoWhales();
        check.state("38 nothing saved", polo::restore);
        polo.swim(0, 13);
        polo.strike(0, EAST, 2);
        check.due("37 the clock", 2, polo::save);
        check.due("37 no change", 4, () -> polo.account(13));
        String saved = gameOf(polo);
        polo.swim(0, 14);
        polo.sing(0);
        polo.whale(0, 1, 1);
        polo.append('d');
        polo.tell(0);
        check.due("38 the clock", 2, polo::restore);
        check.due("38 the input stays", 1, () -> polo.account(12));
        check.due("38 the line stays", '0', () -> polo.character(0));
        check.due("38 no change is remembered", 0, () -> polo.account(13));
        check.none("38 nothing to undo", polo::undo);
        polo.read();
        polo.undo();
        check.due("38 as it was", saved, () -> gameOf(polo));
        drift(polo, 3);
        polo.undo();
        check.due("38 it stays saved", 2, polo::restore);
        polo.drift();
        check.due("37 replaced", 3, polo::save);
        polo.drift();
        check.due("38 the later one", 3, polo::restore);
        check.due("38 the clock", 3, () -> polo.account(1));
        check.due("37 a new game", 0, new WhalePolo()::save);
    }
}
