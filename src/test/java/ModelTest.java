/** Long runs of calls answer as the model does; the numbers that make them are the same each time. */
public final class ModelTest {

    private static final int RUNS = 3000;
    private static final int CALLS = 512;
    private static final int LAST_LOOK = 160;

    private final Check check = new Check("ModelTest");
    private final int[] refusals = new int[15];
    private long seed = 20261119;
    private int ownGoals = 0;
    private int foulsOut = 0;
    private int foulsInNets = 0;
    private int goals = 0;
    private int overs = 0;
    private WhalePolo polo;
    private Model model;
    private int made;
    private int mode;
    private String context;

    public static void main(String[] args) {
        ModelTest test = new ModelTest();
        for (int run = 0; run < RUNS; run++) {
            test.run(run);
        }
        test.checkReached();
        test.check.end();
    }

    private int below(int bound) {
        seed = seed * 6364136223846793005L + 1442695040888963407L;
        return (int) Math.floorMod(seed >>> 33, (long) bound);
    }

    private int from(int low, int high) {
        return low + below(high - low + 1);
    }

    private void both(String call, Check.Call got, Check.Call want) {
        made++;
        check.due(context + call, Check.told(want), got);
    }

    private void run(int run) {
        polo = new WhalePolo();
        model = new Model(refusals);
        made = 0;
        mode = run % 4;
        context = "run " + run + ", ";
        if (mode != 3) {
            for (int whale = from(2, 10); whale > 0; whale--) {
                come();
            }
        }
        while (made < CALLS - LAST_LOOK) {
            if (below(3) == 0) {
                ask();
            } else {
                change();
            }
        }
        look();
        goals += model.account(3) + model.account(4);
        overs += model.account(2) == 4 ? 1 : 0;
        ownGoals += model.ownGoals;
        foulsOut += model.foulsOut;
        foulsInNets += model.foulsInNets;
    }

    private int someWhale() {
        int whales = model.account(0);
        return below(25) == 0 || whales == 0 ? from(-1, 10) : below(whales);
    }

    private int someCell() {
        return below(25) == 0 ? from(-1, 45) : below(45);
    }

    private int cellNearBuoy() {
        int[] strides = {-9, 1, 9, -1, 0};
        int cell = model.account(5) + strides[below(5)];
        return cell < 0 || cell > 44 ? model.account(5) : cell;
    }

    private int whaleNearBuoy() {
        for (int tries = 0; tries < 20; tries++) {
            int whale = model.at(cellNearBuoy());
            if (whale >= 0) {
                return whale;
            }
        }
        return someWhale();
    }

    private void come() {
        boolean isOdd = below(25) == 0;
        int team = isOdd ? from(-1, 2) : below(2);
        int strength = isOdd ? from(0, 6) : from(1, 5);
        int speed = isOdd ? from(0, 5) : from(1, 4);
        both("whale " + team + strength + speed, () -> polo.whale(team, strength, speed),
            () -> model.whale(team, strength, speed));
    }

    private void change() {
        int whale = someWhale();
        int drawn = below(mode == 1 ? 78 : 100);
        if (drawn < 4) {
            come();
        } else if (drawn < 12) {
            swapSome(whale);
        } else if (drawn < 45) {
            swimSome(whale);
        } else if (drawn < 65) {
            strikeSome();
        } else if (drawn < 75) {
            int singer = below(3) == 0 ? whale : whaleNearBuoy();
            both("sing " + singer, () -> polo.sing(singer), () -> model.sing(singer));
        } else if (drawn < 78) {
            both("drift", polo::drift, model::drift);
        } else if (drawn < (mode == 2 ? 94 : 88)) {
            both("undo", polo::undo, model::undo);
        } else if (drawn < 95) {
            readSome();
        } else if (drawn < 98) {
            both("save", polo::save, model::save);
        } else {
            both("restore", polo::restore, model::restore);
        }
    }

    private void swapSome(int out) {
        int in = below(3) == 0 ? someWhale() : goodCalf(out);
        both("swap " + out + " " + in, () -> polo.swap(out, in), () -> model.swap(out, in));
    }

    private int goodCalf(int out) {
        String calf = Check.told(() -> model.calf(model.whaleOf(out, 0)));
        return calf.startsWith("throws") ? someWhale() : Integer.parseInt(calf);
    }

    private void swimSome(int whale) {
        int cell = below(2) == 0 ? cellNearBuoy() : goodCell(whale);
        both("swim " + whale + " " + cell, () -> polo.swim(whale, cell), () -> model.swim(whale, cell));
    }

    /** A cell to which the whale can come by a stroke, if one is found soon; sometimes one that will fall dry. */
    private int goodCell(int whale) {
        for (int tries = 0; tries < 12; tries++) {
            int cell = below(3) == 0 ? below(9) + 36 * below(2) : below(45);
            if (!Check.told(() -> model.steps(whale, cell)).startsWith("throws")
                    && model.steps(whale, cell) <= model.whaleOf(whale, 2)) {
                return cell;
            }
        }
        return someCell();
    }

    private void strikeSome() {
        int whale = below(8) == 0 ? someWhale() : whaleNearBuoy();
        String best = Check.told(() -> model.best(whale));
        boolean isBest = below(3) == 0 && !best.startsWith("throws");
        boolean isOdd = below(40) == 0;
        int way = isBest ? Integer.parseInt(best) / 10 : isOdd ? from(-1, 4) : below(4);
        int force = isBest ? Integer.parseInt(best) % 10 : isOdd ? from(-1, 6) : from(1, 5);
        both("strike " + whale + " " + way + " " + force, () -> polo.strike(whale, way, force),
            () -> model.strike(whale, way, force));
    }

    private void readSome() {
        StringBuilder text = new StringBuilder();
        for (int command = from(0, 4); command >= 0; command--) {
            text.append(text.length() == 0 ? "" : ";").append(someCommand());
        }
        if (below(3) == 0) {
            text.setCharAt(below(text.length()), "wmkobd;@nes0123456789 x".charAt(below(23)));
        }
        if (below(8) == 0) {
            text.setLength(below(text.length() + 1));
        }
        for (int index = 0; index < text.length(); index++) {
            char sign = text.charAt(index);
            both("append " + sign, () -> polo.append(sign), () -> model.append(sign));
        }
        both("read " + text, polo::read, model::read);
    }

    private String someCommand() {
        int whale = Math.floorMod(below(3) == 0 ? someWhale() : whaleNearBuoy(), 10);
        switch (below(7)) {
            case 0:
                return "w" + below(2) + from(1, 5) + from(1, 4);
            case 1:
                return "m" + whale + "@" + Math.floorMod(below(2) == 0 ? cellNearBuoy() : goodCell(whale), 100);
            case 2:
                return "k" + whale + "nesw".charAt(below(4)) + from(1, 4);
            case 3:
                return "o" + whale;
            case 4:
                return "b" + whale + below(10);
            case 5:
                return "m" + whale + "@0" + below(10);
            default:
                return "d";
        }
    }

    private void ask() {
        int whale = someWhale();
        int cell = someCell();
        int way = below(25) == 0 ? from(-1, 4) : below(4);
        int force = below(25) == 0 ? from(0, 6) : from(1, 5);
        int small = from(-1, 14);
        switch (below(28)) {
            case 0 -> both("whaleOf", () -> polo.whaleOf(whale, small), () -> model.whaleOf(whale, small));
            case 1 -> both("at", () -> polo.at(cell), () -> model.at(cell));
            case 2 -> both("isDry", () -> polo.isDry(cell), () -> model.isDry(cell));
            case 3 -> askTide(from(-1, 1000));
            case 4 -> both("turnsIn", () -> polo.turnsIn(cell), () -> model.turnsIn(cell));
            case 5, 6 -> both("steps", () -> polo.steps(whale, cell), () -> model.steps(whale, cell));
            case 7, 8 -> both("stepsAgain", () -> polo.stepsAgain(whale, cell), () -> model.steps(whale, cell));
            case 9, 10 -> both("reach", () -> polo.reach(whale), () -> model.reach(whale));
            case 11, 12 -> both("would", () -> polo.would(whale, way, force), () -> model.would(whale, way, force));
            case 13, 14 -> both("wouldAgain", () -> polo.wouldAgain(whale, way, force),
                () -> model.would(whale, way, force));
            case 15 -> both("wouldFoul", () -> polo.wouldFoul(whale), () -> model.wouldFoul(whale));
            case 16, 17 -> askBest(below(2) == 0 ? whale : whaleNearBuoy());
            case 18 -> both("beside", () -> polo.beside(small % 3), () -> model.beside(small % 3));
            case 19 -> both("ranked", () -> polo.ranked(small % 6, way + force), () -> model.ranked(small % 6, way + force));
            case 20 -> both("calf", () -> polo.calf(small % 3), () -> model.calf(small % 3));
            case 21 -> both("leader", polo::leader, model::leader);
            case 22 -> both("isFair", polo::isFair, () -> true);
            case 23 -> both("row", () -> polo.row(small % 6), () -> model.row(small % 6));
            case 24 -> both("tell", () -> polo.tell(whale), () -> model.tell(whale));
            case 25 -> both("character", () -> polo.character(small), () -> model.character(small));
            case 26 -> both("account", () -> polo.account(small), () -> model.account(small));
            default -> both("reason", () -> polo.reason(small % 4), () -> model.reason(small % 4));
        }
    }

    private void askTide(int clock) {
        both("tide", () -> polo.tide(clock), () -> model.tide(clock));
        both("tideAgain", () -> polo.tideAgain(clock), () -> model.tide(clock));
    }

    private void askBest(int whale) {
        both("best " + whale, () -> polo.best(whale), () -> model.best(whale));
    }

    private void look() {
        for (int account = 0; account < 14; account++) {
            int asked = account;
            both("at last account " + asked, () -> polo.account(asked), () -> model.account(asked));
        }
        for (int whale = 0; whale < model.account(0); whale++) {
            for (int what = 0; what < 9; what++) {
                int asked = whale;
                int number = what;
                both("at last whaleOf " + asked + " " + number, () -> polo.whaleOf(asked, number),
                    () -> model.whaleOf(asked, number));
            }
        }
        for (int what = 0; what < 3; what++) {
            int asked = what;
            both("at last reason " + asked, () -> polo.reason(asked), () -> model.reason(asked));
        }
        both("at last errorPosition", polo::errorPosition, model::errorPosition);
        both("at last meanBreath", polo::meanBreath, model::meanBreath);
        both("at last foulShare", polo::foulShare, model::foulShare);
    }

    private void checkReached() {
        for (int reason = 1; reason < refusals.length; reason++) {
            check.same("reason " + reason + " was reached", true, refusals[reason] > 0);
        }
        check.same("goals were reached", true, goals > 0);
        check.same("own goals were reached", true, ownGoals > 0);
        check.same("fouls out of the field were reached", true, foulsOut > 0);
        check.same("fouls in the nets were reached", true, foulsInNets > 0);
        check.same("ends of the game were reached", true, overs > 0);
        StringBuilder told = new StringBuilder("ModelTest reached, reason by reason:");
        for (int reason = 1; reason < refusals.length; reason++) {
            told.append(' ').append(refusals[reason]);
        }
        System.out.println(told + "; goals " + goals + ", own " + ownGoals + ", fouls out " + foulsOut
            + ", fouls in the nets " + foulsInNets + ", games over " + overs);
    }
}
