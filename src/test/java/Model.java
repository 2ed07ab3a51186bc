import java.util.ArrayDeque;
import java.util.ArrayList;
import java.util.Comparator;
import java.util.Deque;
import java.util.List;
import java.util.NoSuchElementException;
import java.util.function.ToIntFunction;
import java.util.regex.Matcher;
import java.util.regex.Pattern;

/** A second, plain program for the same document: it copies freely and takes the ways that are the easiest to read. */
final class Model {

    private static final class Whale {
        int team;
        int strength;
        int speed;
        int breath = 20;
        int cell = -1;
        boolean sings;
        int goals;
        int fouls;
        int strikes;

        Whale copy() {
            Whale copy = new Whale();
            copy.team = team;
            copy.strength = strength;
            copy.speed = speed;
            copy.breath = breath;
            copy.cell = cell;
            copy.sings = sings;
            copy.goals = goals;
            copy.fouls = fouls;
            copy.strikes = strikes;
            return copy;
        }
    }

    private static final class State {
        final List<Whale> whales = new ArrayList<>();
        final int[] goals = new int[2];
        final int[] substitutions = new int[2];
        final int[] substitutionsNow = new int[2];
        int clock;
        int buoy = 22;
        int right = -1;
        int strikes;
        int fouls;
        int nets;

        State copy() {
            State copy = new State();
            whales.forEach(whale -> copy.whales.add(whale.copy()));
            for (int team = 0; team < 2; team++) {
                copy.goals[team] = goals[team];
                copy.substitutions[team] = substitutions[team];
                copy.substitutionsNow[team] = substitutionsNow[team];
            }
            copy.clock = clock;
            copy.buoy = buoy;
            copy.right = right;
            copy.strikes = strikes;
            copy.fouls = fouls;
            copy.nets = nets;
            return copy;
        }
    }

    private static final String COMMAND = "(w\\d\\d\\d|m\\d@\\d\\d?|k\\d[nesw]\\d|o\\d|b\\d\\d|d)";
    private static final Pattern TEXT = Pattern.compile(COMMAND + "(;" + COMMAND + ")*");
    private static final int[][] STRIDES = {{-1, 0}, {0, 1}, {1, 0}, {0, -1}};

    /** How often something came to pass, so that a test sees what its runs have reached. */
    final int[] refusals;
    int ownGoals;
    int foulsOut;
    int foulsInNets;

    private State now = new State();
    private State saved;
    private final Deque<State> past = new ArrayDeque<>();
    private String input = "";
    private String line = "";
    private Integer error;
    private int[] reason;
    private int command = -1;
    private boolean isInText;

    Model(int[] refusals) {
        this.refusals = refusals;
    }

    // ---- changes

    private void refuseIf(boolean applies, int number, int detail) {
        if (applies) {
            refusals[number]++;
            reason = new int[] {number, detail, command};
            throw new UnsupportedOperationException();
        }
    }

    private void keepPast() {
        if (!isInText) {
            remember(now.copy());
        }
    }

    private void remember(State state) {
        past.addLast(state);
        if (past.size() > 6) {
            past.removeFirst();
        }
    }

    private void pass() {
        now.clock++;
        if (now.clock % 12 == 0) {
            now.buoy = 22;
            now.right = -1;
            now.substitutionsNow[0] = 0;
            now.substitutionsNow[1] = 0;
            for (Whale whale : now.whales) {
                whale.sings = false;
                whale.breath = whale.breath + 5 > 20 ? 20 : whale.breath + 5;
            }
        }
    }

    int whale(int team, int strength, int speed) {
        if (team != 0 && team != 1 || strength < 1 || strength > 5 || speed < 1 || speed > 4) {
            throw new IllegalArgumentException();
        }
        int before = (int) now.whales.stream().filter(whale -> whale.team == team).count();
        refuseIf(before == 5, 1, 5);
        int[][] cells = {{10, 19, 28, -1, -1}, {16, 25, 34, -1, -1}};
        int cell = cells[team][before];
        refuseIf(cell >= 0 && at(cell) >= 0, 7, cell >= 0 ? at(cell) : -1);
        keepPast();
        Whale whale = new Whale();
        whale.team = team;
        whale.strength = strength;
        whale.speed = speed;
        whale.cell = cell;
        now.whales.add(whale);
        return now.whales.size() - 1;
    }

    int swap(int out, int in) {
        Whale goes = get(out);
        Whale comes = get(in);
        refuseIf(now.clock == 48, 2, now.clock);
        refuseIf(goes.cell < 0, 3, out);
        refuseIf(goes.team != comes.team, 12, comes.team);
        refuseIf(comes.cell >= 0, 13, comes.cell);
        refuseIf(now.substitutionsNow[goes.team] == 2, 14, now.substitutions[goes.team]);
        keepPast();
        goes = get(out);
        comes = get(in);
        comes.cell = goes.cell;
        goes.cell = -1;
        goes.sings = false;
        now.substitutions[goes.team]++;
        int left = 2 - ++now.substitutionsNow[goes.team];
        pass();
        return left;
    }

    int swim(int number, int cell) {
        Whale whale = get(number);
        check(cell);
        refuseIf(now.clock == 48, 2, now.clock);
        refuseIf(whale.cell < 0, 3, number);
        refuseIf(isDry(whale.cell), 4, whale.cell);
        refuseIf(at(cell) >= 0, 7, at(cell));
        refuseIf(isDry(cell), 8, tide(now.clock));
        int far = fewest(whale.cell, cell);
        refuseIf(far < 0 || far > whale.speed, 5, far);
        refuseIf(far > whale.breath, 6, whale.breath);
        keepPast();
        whale.cell = cell;
        whale.breath -= far;
        whale.sings = false;
        pass();
        return far;
    }

    int strike(int number, int way, int force) {
        Whale whale = get(number);
        checkStrike(way, force);
        refuseIf(now.clock == 48, 2, now.clock);
        refuseIf(whale.cell < 0, 3, number);
        refuseIf(isDry(whale.cell), 4, whale.cell);
        refuseIf(apart(whale.cell, now.buoy) > 1, 9, apart(whale.cell, now.buoy));
        refuseIf(force > whale.strength, 10, whale.strength);
        refuseIf(whale.breath == 0, 6, 0);
        keepPast();
        boolean foul = wouldFoul(number);
        boolean nets = end(number, way, force) < 0;
        int answer = would(number, way, force);
        boolean out = answer > 44 || foul && leaves(number, way, force);
        whale.breath--;
        whale.strikes++;
        now.strikes++;
        now.nets += nets ? 1 : 0;
        if (foul) {
            whale.fouls++;
            now.fouls++;
            foulsOut += out ? 1 : 0;
            foulsInNets += nets ? 1 : 0;
        } else if (out) {
            int scorer = answer - 45;
            now.goals[scorer]++;
            whale.goals += whale.team == scorer ? 1 : 0;
            ownGoals += whale.team == scorer ? 0 : 1;
            now.right = -1;
        } else {
            now.right = nets ? 1 - whale.team : whale.team;
        }
        now.buoy = out ? 22 : answer;
        pass();
        return answer;
    }

    int sing(int number) {
        Whale whale = get(number);
        refuseIf(now.clock == 48, 2, now.clock);
        refuseIf(whale.cell < 0, 3, number);
        refuseIf(whale.sings, 11, number);
        refuseIf(whale.breath == 0, 6, 0);
        keepPast();
        whale.sings = true;
        int breath = --whale.breath;
        pass();
        return breath;
    }

    int drift() {
        refuseIf(now.clock == 48, 2, now.clock);
        keepPast();
        pass();
        return now.clock;
    }

    // ---- the field

    private Whale get(int number) {
        if (number < 0 || number >= now.whales.size()) {
            throw new IndexOutOfBoundsException();
        }
        return now.whales.get(number);
    }

    private static void check(int cell) {
        if (cell < 0 || cell > 44) {
            throw new IndexOutOfBoundsException();
        }
    }

    private static void checkStrike(int way, int force) {
        if (way < 0 || way > 3 || force < 1 || force > 5) {
            throw new IllegalArgumentException();
        }
    }

    private static int apart(int cell, int other) {
        return Math.abs(cell / 9 - other / 9) + Math.abs(cell % 9 - other % 9);
    }

    int whaleOf(int number, int what) {
        Whale whale = get(number);
        if (what < 0 || what > 8) {
            throw new IllegalArgumentException();
        }
        return new int[] {whale.team, whale.strength, whale.speed, whale.breath, whale.cell, whale.sings ? 1 : 0,
            whale.goals, whale.fouls, whale.strikes}[what];
    }

    int at(int cell) {
        check(cell);
        for (int number = 0; number < now.whales.size(); number++) {
            if (now.whales.get(number).cell == cell) {
                return number;
            }
        }
        return -1;
    }

    boolean isDry(int cell) {
        check(cell);
        return (cell < 9 || cell > 35) && tide(now.clock) <= 2;
    }

    int tide(int clock) {
        if (clock < 0 || clock > 999) {
            throw new IllegalArgumentException();
        }
        return "8765432101234567".charAt(clock % 16) - '0';
    }

    int turnsIn(int cell) {
        check(cell);
        if (cell >= 9 && cell <= 35) {
            throw new NoSuchElementException();
        }
        int strokes = 1;
        while (tide(now.clock + strokes) <= 2 == isDry(cell)) {
            strokes++;
        }
        return strokes;
    }

    int steps(int number, int cell) {
        Whale whale = get(number);
        check(cell);
        int far = whale.cell < 0 ? -1 : fewest(whale.cell, cell);
        if (far < 0) {
            throw new NoSuchElementException();
        }
        return far;
    }

    private int fewest(int from, int to) {
        int[] far = new int[45];
        java.util.Arrays.fill(far, -1);
        Deque<Integer> queue = new ArrayDeque<>();
        far[from] = 0;
        queue.add(from);
        while (!queue.isEmpty()) {
            int cell = queue.remove();
            for (int next = 0; next < 45; next++) {
                if (apart(cell, next) == 1 && far[next] < 0 && at(next) < 0 && !isDry(next)) {
                    far[next] = far[cell] + 1;
                    queue.add(next);
                }
            }
        }
        return far[to];
    }

    int reach(int number) {
        Whale whale = get(number);
        if (now.clock == 48 || whale.cell < 0 || isDry(whale.cell)) {
            return 0;
        }
        int found = 0;
        for (int cell = 0; cell < 45; cell++) {
            int far = fewest(whale.cell, cell);
            found += far > 0 && far <= whale.speed && far <= whale.breath ? 1 : 0;
        }
        return found;
    }

    // ---- the buoy

    /** The cell, 45 or 46 by an end, or the cell in the nets, taken away from -1. */
    private int end(int number, int way, int force) {
        int y = now.buoy / 9;
        int x = now.buoy % 9;
        for (int gone = 0; gone < force; gone++) {
            int nextY = y + STRIDES[way][0];
            int nextX = x + STRIDES[way][1];
            int here = 9 * y + x;
            if (nextY < 0 || nextY > 4) {
                return -1 - here;
            }
            if (nextX < 0 || nextX > 8) {
                return y == 0 || y == 4 ? -1 - here : nextX > 8 ? 45 : 46;
            }
            int ahead = at(9 * nextY + nextX);
            if (ahead >= 0 && ahead != number) {
                return here;
            }
            if (isDry(9 * nextY + nextX)) {
                return -1 - here;
            }
            y = nextY;
            x = nextX;
        }
        return 9 * y + x;
    }

    private boolean leaves(int number, int way, int force) {
        return end(number, way, force) > 44;
    }

    int would(int number, int way, int force) {
        get(number);
        checkStrike(way, force);
        if (leaves(number, way, force) && wouldFoul(number)) {
            return 22;
        }
        int end = end(number, way, force);
        return end < 0 ? -1 - end : end;
    }

    boolean wouldFoul(int number) {
        int other = 1 - get(number).team;
        return now.right == other && now.whales.stream().anyMatch(whale -> whale.team == other && whale.sings
            && whale.cell >= 0 && apart(whale.cell, now.buoy) <= 1);
    }

    int best(int number) {
        Whale whale = get(number);
        boolean can = now.clock < 48 && whale.cell >= 0 && !isDry(whale.cell) && apart(whale.cell, now.buoy) <= 1
            && whale.breath > 0;
        int best = -1;
        int bestValue = 1000;
        for (int way = 0; can && way < 4; way++) {
            for (int force = 1; force <= whale.strength; force++) {
                int end = would(number, way, force);
                if (end == 46 - whale.team) {
                    continue;
                }
                int columns = whale.team == 0 ? 8 - end % 9 : end % 9;
                int value = end == 45 + whale.team ? -1 : columns;
                if (value < bestValue) {
                    bestValue = value;
                    best = 10 * way + force;
                }
            }
        }
        if (best < 0) {
            throw new NoSuchElementException();
        }
        return best;
    }

    int beside(int team) {
        if (team != 0 && team != 1) {
            throw new IllegalArgumentException();
        }
        return (int) now.whales.stream().filter(whale -> whale.team == team && whale.cell >= 0
            && apart(whale.cell, now.buoy) <= 1).count();
    }

    // ---- orders

    int ranked(int kind, int place) {
        if (kind < 0 || kind > 4) {
            throw new IllegalArgumentException();
        }
        List<ToIntFunction<Whale>> kinds = List.of(whale -> whale.breath, whale -> whale.goals, whale -> whale.fouls,
            whale -> whale.strikes, whale -> whale.strength + whale.speed);
        List<Whale> order = new ArrayList<>(now.whales);
        order.sort(Comparator.comparingInt(kinds.get(kind)).reversed());
        if (place < 0 || place >= order.size()) {
            throw new NoSuchElementException();
        }
        return now.whales.indexOf(order.get(place));
    }

    int calf(int team) {
        if (team != 0 && team != 1) {
            throw new IllegalArgumentException();
        }
        return now.whales.stream().filter(whale -> whale.team == team && whale.cell < 0)
            .sorted(Comparator.comparingInt((Whale whale) -> -whale.breath).thenComparingInt(whale -> -whale.strength))
            .mapToInt(now.whales::indexOf).findFirst().orElseThrow();
    }

    int leader() {
        return now.goals[0] == now.goals[1] ? -1 : now.goals[0] > now.goals[1] ? 0 : 1;
    }

    // ---- lines, means, accounts, texts, history and saving

    int row(int y) {
        if (y < 0 || y > 4) {
            throw new IndexOutOfBoundsException();
        }
        line = "";
        for (int cell = 9 * y; cell < 9 * y + 9; cell++) {
            line += at(cell) >= 0 ? "" + at(cell) : cell == now.buoy ? "o" : isDry(cell) ? "_" : ".";
        }
        return line.length();
    }

    int tell(int number) {
        Whale whale = get(number);
        line = number + ":" + whale.team + "^" + whale.strength + "/" + whale.speed + "%" + whale.breath
            + (whale.cell < 0 ? "" : "@" + whale.cell) + (whale.sings ? "!" : "");
        return line.length();
    }

    char character(int index) {
        if (index < 0 || index >= line.length()) {
            throw new NoSuchElementException();
        }
        return line.charAt(index);
    }

    double meanBreath() {
        double sum = 0;
        double playing = 0;
        for (Whale whale : now.whales) {
            sum += whale.cell < 0 ? 0 : whale.breath;
            playing += whale.cell < 0 ? 0 : 1;
        }
        if (playing == 0) {
            throw new ArithmeticException();
        }
        return sum / playing;
    }

    float foulShare() {
        if (now.strikes == 0) {
            throw new ArithmeticException();
        }
        return (float) now.fouls / (float) now.strikes;
    }

    int account(int account) {
        if (account < 0 || account > 13) {
            throw new IllegalArgumentException();
        }
        int playing = (int) now.whales.stream().filter(whale -> whale.cell >= 0).count();
        return new int[] {now.whales.size(), now.clock, now.clock / 12, now.goals[0], now.goals[1], now.buoy, now.right,
            now.strikes, now.fouls, now.substitutions[0] + now.substitutions[1], playing, now.nets, input.length(),
            past.size()}[account];
    }

    int append(char character) {
        if (character < ' ' || character > '~') {
            throw new IllegalArgumentException();
        }
        if (input.length() == 60) {
            throw new IllegalStateException();
        }
        input += character;
        return input.length();
    }

    int read() {
        String text = input;
        input = "";
        if (!TEXT.matcher(text).matches()) {
            error = errorOf(text);
            throw new IllegalArgumentException();
        }
        State before = now.copy();
        isInText = true;
        String[] commands = text.split(";");
        try {
            for (command = 0; command < commands.length; command++) {
                carryOut(commands[command]);
            }
        } catch (IndexOutOfBoundsException | IllegalArgumentException e) {
            now = before;
            throw new IllegalStateException();
        } catch (UnsupportedOperationException e) {
            now = before;
            throw e;
        } finally {
            isInText = false;
            command = -1;
        }
        remember(before);
        return commands.length;
    }

    private static int errorOf(String text) {
        for (int k = 0; k < text.length(); k++) {
            Matcher matcher = TEXT.matcher(text.substring(0, k + 1));
            if (!matcher.matches() && !matcher.hitEnd()) {
                return k;
            }
        }
        return text.length();
    }

    private void carryOut(String told) {
        int[] digits = told.chars().map(sign -> sign - '0').toArray();
        switch (told.charAt(0)) {
            case 'w' -> whale(digits[1], digits[2], digits[3]);
            case 'm' -> swim(digits[1], Integer.parseInt(told.substring(3)));
            case 'k' -> strike(digits[1], "nesw".indexOf(told.charAt(2)), digits[3]);
            case 'o' -> sing(digits[1]);
            case 'b' -> swap(digits[1], digits[2]);
            default -> drift();
        }
    }

    int errorPosition() {
        if (error == null) {
            throw new NoSuchElementException();
        }
        return error;
    }

    int reason(int what) {
        if (what < 0 || what > 2) {
            throw new IllegalArgumentException();
        }
        if (reason == null) {
            throw new NoSuchElementException();
        }
        return reason[what];
    }

    int undo() {
        now = past.removeLast();
        return past.size();
    }

    int save() {
        saved = now.copy();
        return now.clock;
    }

    int restore() {
        if (saved == null) {
            throw new IllegalStateException();
        }
        now = saved.copy();
        past.clear();
        return now.clock;
    }
}
