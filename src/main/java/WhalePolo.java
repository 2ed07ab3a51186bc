import java.util.NoSuchElementException;

/** A polo of whales with a buoy, kept to the promises of DOC.md. */
public final class WhalePolo {

    private static final int ROWS = 5;
    private static final int COLUMNS = 9;
    private static final int CELLS = 45;
    private static final int CENTRE = 22;

    private static final int WAYS = 4;
    private static final int NORTH = 0;
    private static final int EAST = 1;
    private static final int SOUTH = 2;
    private static final int WEST = 3;

    /** What a buoy that left by an end answers: this, and the number of the team that scores there. */
    private static final int GOAL = 45;

    private static final int TEAMS = 2;
    private static final int NO_TEAM = -1;
    private static final int NO_WHALE = -1;
    private static final int BENCH = -1;
    private static final int NEVER = -1;

    private static final int TEAM_WHALES = 5;
    private static final int TEAM_IN_PLAY = 3;
    private static final int ALL_WHALES = 10;
    private static final int MOST_STRENGTH = 5;
    private static final int MOST_SPEED = 4;
    private static final int MOST_FORCE = 5;
    private static final int MOST_BREATH = 20;
    private static final int REST = 5;
    private static final int CHUKKA_SUBSTITUTIONS = 2;
    private static final int CHUKKA_STROKES = 12;
    private static final int GAME_STROKES = 48;

    private static final int HIGH_TIDE = 8;
    private static final int DRY_TIDE = 2;
    private static final int LAST_CLOCK = 999;
    private static final int FAIR_STROKES = 20;

    private static final int MOST_CHANGES = 6;
    private static final int MOST_INPUT = 60;
    private static final int LINE_ROOM = 32;

    // The numbers of a whale, numbered as whaleOf numbers them.
    private static final int TEAM = 0;
    private static final int STRENGTH = 1;
    private static final int SPEED = 2;
    private static final int BREATH = 3;
    private static final int CELL = 4;
    private static final int SINGS = 5;
    private static final int WHALE_GOALS = 6;
    private static final int WHALE_FOULS = 7;
    private static final int WHALE_STRIKES = 8;
    private static final int WHALE_NUMBERS = 9;

    // The counts of a game, numbered as account numbers them; the last two, each for both teams, have no account.
    private static final int WHALES = 0;
    private static final int CLOCK = 1;
    private static final int CHUKKA = 2;
    private static final int GOALS = 3;
    private static final int BUOY = 5;
    private static final int RIGHT = 6;
    private static final int STRIKES = 7;
    private static final int FOULS = 8;
    private static final int SUBSTITUTIONS = 9;
    private static final int IN_PLAY = 10;
    private static final int NETS = 11;
    private static final int INPUT = 12;
    private static final int CHANGES = 13;
    private static final int ACCOUNTS = 14;
    private static final int TEAM_SUBSTITUTIONS = 14;
    private static final int CHUKKA_MADE = 16;
    private static final int COUNTS = 18;

    // The orders of ranked.
    private static final int BY_BREATH = 0;
    private static final int BY_GOALS = 1;
    private static final int BY_FOULS = 2;
    private static final int BY_STRIKES = 3;
    private static final int ORDERS = 5;

    // What is wrong with a call: nothing, or it is out of bounds, or else the number of a reason.
    private static final int FINE = 0;
    private static final int MISSING = -1;
    private static final int OUT_OF_RANGE = -2;
    private static final int FULL_TEAM = 1;
    private static final int GAME_OVER = 2;
    private static final int ON_BENCH = 3;
    private static final int STRANDED = 4;
    private static final int TOO_FAR = 5;
    private static final int NO_BREATH = 6;
    private static final int TAKEN = 7;
    private static final int DRY_CELL = 8;
    private static final int BUOY_FAR = 9;
    private static final int TOO_WEAK = 10;
    private static final int SINGING = 11;
    private static final int TWO_TEAMS = 12;
    private static final int CALF_PLAYS = 13;
    private static final int ALL_SUBSTITUTED = 14;

    // The commands of a text, numbered as their letters stand in LETTERS.
    private static final String LETTERS = "wmkobd";
    private static final String WAY_LETTERS = "nesw";
    private static final int COME = 0;
    private static final int MOVE = 1;
    private static final int HIT = 2;
    private static final int SONG = 3;
    private static final int SUBSTITUTE = 4;
    private static final int PASS = 5;
    private static final int NO_COMMAND = -1;

    private final Game game;
    private final Game beforeText;
    private final Game saved;
    private final History history;
    private final Routes routes;
    private final Flight flight;
    private final Umpire umpire;
    private final Text text;
    private final Line line;
    private boolean isSaved;
    private int keptError;
    private int keptReason;
    private int keptDetail;
    private int keptCommand;

    public WhalePolo() {
        game = new Game();
        beforeText = new Game();
        saved = new Game();
        history = new History();
        routes = new Routes(game);
        flight = new Flight(game);
        umpire = new Umpire(game, routes);
        text = new Text();
        line = new Line();
        isSaved = false;
        keptError = NEVER;
        keptReason = FINE;
        keptDetail = 0;
        keptCommand = NO_COMMAND;
    }

    // ---- whales

    public int whale(int team, int strength, int speed)
            throws IllegalArgumentException, UnsupportedOperationException {
        int fault = umpire.comeFault(team, strength, speed);
        demandRange(fault);
        demandAllowed(fault);
        history.remember(game);
        return game.addWhale(team, strength, speed);
    }

    public int swap(int out, int in) throws IndexOutOfBoundsException, UnsupportedOperationException {
        int fault = umpire.substituteFault(out, in);
        demandThere(fault);
        demandAllowed(fault);
        history.remember(game);
        return game.substitute(out, in);
    }

    // ---- strokes

    public int swim(int whale, int cell) throws IndexOutOfBoundsException, UnsupportedOperationException {
        int fault = umpire.moveFault(whale, cell);
        demandThere(fault);
        demandAllowed(fault);
        history.remember(game);
        return moveWhale(whale, cell);
    }

    public int strike(int whale, int way, int force)
            throws IndexOutOfBoundsException, IllegalArgumentException, UnsupportedOperationException {
        int fault = umpire.hitFault(whale, way, force);
        demandThere(fault);
        demandRange(fault);
        demandAllowed(fault);
        history.remember(game);
        return hitBuoy(whale, way, force);
    }

    public int sing(int whale) throws IndexOutOfBoundsException, UnsupportedOperationException {
        int fault = umpire.songFault(whale);
        demandThere(fault);
        demandAllowed(fault);
        history.remember(game);
        return game.startSong(whale);
    }

    public int drift() throws UnsupportedOperationException {
        int fault = umpire.passFault();
        demandAllowed(fault);
        history.remember(game);
        return game.endStroke();
    }

    // ---- the field

    public int whaleOf(int whale, int what) throws IndexOutOfBoundsException, IllegalArgumentException {
        demandWhale(whale);
        if (what < 0 || what >= WHALE_NUMBERS) {
            throw new IllegalArgumentException("no such number of a whale");
        }
        return game.of(whale, what);
    }

    public int at(int cell) throws IndexOutOfBoundsException {
        demandCell(cell);
        return game.whaleOn(cell);
    }

    public boolean isDry(int cell) throws IndexOutOfBoundsException {
        demandCell(cell);
        return game.isDryNow(cell);
    }

    public int tide(int clock) throws IllegalArgumentException {
        demandClock(clock);
        return tideByStrokes(clock);
    }

    public int tideAgain(int clock) throws IllegalArgumentException {
        demandClock(clock);
        return tideByDividing(clock);
    }

    public int turnsIn(int cell) throws IndexOutOfBoundsException, NoSuchElementException {
        demandCell(cell);
        if (!isEdge(cell)) {
            throw new NoSuchElementException("this cell is never dry");
        }
        return game.strokesToTurn();
    }

    public int steps(int whale, int cell) throws IndexOutOfBoundsException, NoSuchElementException {
        demandWhale(whale);
        demandCell(cell);
        routes.findBySpreading(whale);
        int fewest = routes.spreadTo(cell);
        demandWay(fewest);
        return fewest;
    }

    public int stepsAgain(int whale, int cell) throws IndexOutOfBoundsException, NoSuchElementException {
        demandWhale(whale);
        demandCell(cell);
        routes.findByLowering(whale);
        int fewest = routes.loweredTo(cell);
        demandWay(fewest);
        return fewest;
    }

    public int reach(int whale) throws IndexOutOfBoundsException {
        demandWhale(whale);
        if (game.isOver() || !game.isPlaying(whale) || game.isStranded(whale)) {
            return 0;
        }
        routes.findBySpreading(whale);
        return routes.countWithin(Math.min(game.of(whale, SPEED), game.of(whale, BREATH)));
    }

    // ---- the buoy

    public int would(int whale, int way, int force) throws IndexOutOfBoundsException, IllegalArgumentException {
        demandWhale(whale);
        demandStrike(way, force);
        return flight.endByCells(whale, way, force);
    }

    public int wouldAgain(int whale, int way, int force) throws IndexOutOfBoundsException, IllegalArgumentException {
        demandWhale(whale);
        demandStrike(way, force);
        return flight.endByStops(whale, way, force);
    }

    public boolean wouldFoul(int whale) throws IndexOutOfBoundsException {
        demandWhale(whale);
        return game.isFoulBy(whale);
    }

    public int best(int whale) throws IndexOutOfBoundsException, NoSuchElementException {
        demandWhale(whale);
        int found = umpire.hitFault(whale, NORTH, 1) == FINE ? bestStrike(whale) : NEVER;
        if (found == NEVER) {
            throw new NoSuchElementException("no strike is good for its team");
        }
        return found;
    }

    public int beside(int team) throws IllegalArgumentException {
        demandTeam(team);
        int near = 0;
        for (int whale = 0; whale < game.count(WHALES); whale++) {
            if (game.of(whale, TEAM) == team && game.isNearBuoy(whale)) {
                near++;
            }
        }
        return near;
    }

    // ---- orders

    public int ranked(int kind, int place) throws IllegalArgumentException, NoSuchElementException {
        if (kind < 0 || kind >= ORDERS) {
            throw new IllegalArgumentException("no such order");
        }
        for (int whale = 0; whale < game.count(WHALES); whale++) {
            if (countAhead(kind, whale) == place) {
                return whale;
            }
        }
        throw new NoSuchElementException("no such place");
    }

    public int calf(int team) throws IllegalArgumentException, NoSuchElementException {
        demandTeam(team);
        int found = bestCalf(team);
        if (found == NO_WHALE) {
            throw new NoSuchElementException("no calf on the bench");
        }
        return found;
    }

    public int leader() {
        int lead = game.count(GOALS) - game.count(GOALS + 1);
        if (lead == 0) {
            return NO_TEAM;
        }
        return lead > 0 ? 0 : 1;
    }

    public boolean isFair() {
        return areTidesAlike() && areStepsAlike() && areFlightsAlike() && isPlaced();
    }

    // ---- lines, means, accounts, texts, history and saving

    public int row(int y) throws IndexOutOfBoundsException {
        if (y < 0 || y >= ROWS) {
            throw new IndexOutOfBoundsException("no such row");
        }
        line.clear();
        for (int column = 0; column < COLUMNS; column++) {
            writeCell(y * COLUMNS + column);
        }
        return line.length();
    }

    public int tell(int whale) throws IndexOutOfBoundsException {
        demandWhale(whale);
        line.clear();
        line.addNumber(whale);
        line.addSigned(':', game.of(whale, TEAM));
        line.addSigned('^', game.of(whale, STRENGTH));
        line.addSigned('/', game.of(whale, SPEED));
        line.addSigned('%', game.of(whale, BREATH));
        if (game.isPlaying(whale)) {
            line.addSigned('@', game.of(whale, CELL));
        }
        if (game.of(whale, SINGS) == 1) {
            line.add('!');
        }
        return line.length();
    }

    public char character(int index) throws NoSuchElementException {
        if (index < 0 || index >= line.length()) {
            throw new NoSuchElementException("no such character");
        }
        return line.signAt(index);
    }

    public double meanBreath() throws ArithmeticException {
        int sum = 0;
        int playing = 0;
        for (int whale = 0; whale < game.count(WHALES); whale++) {
            if (game.isPlaying(whale)) {
                sum += game.of(whale, BREATH);
                playing++;
            }
        }
        if (playing == 0) {
            throw new ArithmeticException("no whales in play");
        }
        return (double) sum / (double) playing;
    }

    public float foulShare() throws ArithmeticException {
        int strikes = game.count(STRIKES);
        if (strikes == 0) {
            throw new ArithmeticException("no strikes so far");
        }
        return (float) game.count(FOULS) / (float) strikes;
    }

    public int account(int account) throws IllegalArgumentException {
        if (account < 0 || account >= ACCOUNTS) {
            throw new IllegalArgumentException("no such account");
        }
        switch (account) {
            case CHUKKA:
                return game.count(CLOCK) / CHUKKA_STROKES;
            case IN_PLAY:
                return game.countPlaying(0) + game.countPlaying(1);
            case INPUT:
                return text.length();
            case CHANGES:
                return history.size();
            default:
                return game.count(account);
        }
    }

    public int append(char character) throws IllegalArgumentException, IllegalStateException {
        if (character < 32 || character > 126) {
            throw new IllegalArgumentException("no character for the input");
        }
        if (text.length() >= MOST_INPUT) {
            throw new IllegalStateException("the input is full");
        }
        return text.add(character);
    }

    public int read() throws IllegalArgumentException, IllegalStateException, UnsupportedOperationException {
        int error = text.errorAt();
        if (error != NEVER) {
            text.clear();
            keptError = error;
            throw new IllegalArgumentException("the input is malformed");
        }
        beforeText.copyFrom(game);
        int fault = FINE;
        text.rewind();
        for (int command = 0; command < MOST_INPUT && fault == FINE && text.takeNext(); command++) {
            fault = faultOfCommand();
            if (fault == FINE) {
                performCommand();
                text.countDone();
            }
        }
        text.clear();
        if (fault != FINE) {
            game.copyFrom(beforeText);
            demandKnown(fault);
            keepReason(fault, text.doneCommands());
            throw new UnsupportedOperationException("a command is refused");
        }
        history.remember(beforeText);
        return text.doneCommands();
    }

    public int errorPosition() throws NoSuchElementException {
        if (keptError == NEVER) {
            throw new NoSuchElementException("no error position was kept");
        }
        return keptError;
    }

    public int reason(int what) throws IllegalArgumentException, NoSuchElementException {
        if (what < 0 || what > 2) {
            throw new IllegalArgumentException("no such number of a refusal");
        }
        if (keptReason == FINE) {
            throw new NoSuchElementException("no reason was kept");
        }
        if (what == 0) {
            return keptReason;
        }
        return what == 1 ? keptDetail : keptCommand;
    }

    public int undo() throws NoSuchElementException {
        if (history.size() == 0) {
            throw new NoSuchElementException("no change is remembered");
        }
        history.takeBack(game);
        return history.size();
    }

    public int save() {
        saved.copyFrom(game);
        isSaved = true;
        return game.count(CLOCK);
    }

    public int restore() throws IllegalStateException {
        if (!isSaved) {
            throw new IllegalStateException("nothing was saved");
        }
        game.copyFrom(saved);
        history.forgetAll();
        return game.count(CLOCK);
    }

    // What the calls demand, each with the exception that the document names.

    private void demandThere(int fault) {
        if (fault == MISSING) {
            throw new IndexOutOfBoundsException("no such whale or cell");
        }
    }

    private void demandRange(int fault) {
        if (fault == OUT_OF_RANGE) {
            throw new IllegalArgumentException("a number is out of range");
        }
    }

    private void demandAllowed(int fault) {
        if (fault > FINE) {
            keepReason(fault, NO_COMMAND);
            throw new UnsupportedOperationException("refused");
        }
    }

    private void demandKnown(int fault) {
        if (fault == MISSING || fault == OUT_OF_RANGE) {
            throw new IllegalStateException("a command tells what there is not");
        }
    }

    private void demandWhale(int whale) {
        if (!game.has(whale)) {
            throw new IndexOutOfBoundsException("no such whale");
        }
    }

    private void demandCell(int cell) {
        if (!isCell(cell)) {
            throw new IndexOutOfBoundsException("no such cell");
        }
    }

    private void demandClock(int clock) {
        if (clock < 0 || clock > LAST_CLOCK) {
            throw new IllegalArgumentException("the clock is out of range");
        }
    }

    private void demandTeam(int team) {
        if (!isTeam(team)) {
            throw new IllegalArgumentException("no such team");
        }
    }

    private void demandStrike(int way, int force) {
        if (!isWay(way) || !isForce(force)) {
            throw new IllegalArgumentException("no such way or force");
        }
    }

    private void demandWay(int fewest) {
        if (fewest == NEVER) {
            throw new NoSuchElementException("the whale could not come there");
        }
    }

    private void keepReason(int fault, int command) {
        keptReason = fault;
        keptDetail = umpire.detail();
        keptCommand = command;
    }

    // What is carried out once nothing is wrong with it.

    private int moveWhale(int whale, int cell) {
        routes.findBySpreading(whale);
        return game.move(whale, cell, routes.spreadTo(cell));
    }

    private int hitBuoy(int whale, int way, int force) {
        boolean isFoul = game.isFoulBy(whale);
        int end = flight.goByCells(whale, way, force);
        return game.hit(whale, end, flight.isNetted(), isFoul);
    }

    private int faultOfCommand() {
        int first = text.number(0);
        int second = text.number(1);
        int third = text.number(2);
        switch (text.kind()) {
            case COME:
                return umpire.comeFault(first, second, third);
            case MOVE:
                return umpire.moveFault(first, second);
            case HIT:
                return umpire.hitFault(first, second, third);
            case SONG:
                return umpire.songFault(first);
            case SUBSTITUTE:
                return umpire.substituteFault(first, second);
            case PASS:
                return umpire.passFault();
            default:
                return MISSING;
        }
    }

    private void performCommand() {
        int first = text.number(0);
        int second = text.number(1);
        int third = text.number(2);
        switch (text.kind()) {
            case COME:
                game.addWhale(first, second, third);
                break;
            case MOVE:
                moveWhale(first, second);
                break;
            case HIT:
                hitBuoy(first, second, third);
                break;
            case SONG:
                game.startSong(first);
                break;
            case SUBSTITUTE:
                game.substitute(first, second);
                break;
            default:
                game.endStroke();
                break;
        }
    }

    // Orders.

    private int bestStrike(int whale) {
        int team = game.of(whale, TEAM);
        int found = NEVER;
        int nearest = COLUMNS;
        for (int way = 0; way < WAYS; way++) {
            for (int force = 1; force <= game.of(whale, STRENGTH); force++) {
                int columns = columnsToGoal(flight.endByCells(whale, way, force), team);
                if (columns < nearest) {
                    nearest = columns;
                    found = 10 * way + force;
                }
            }
        }
        return found;
    }

    /** An own goal answers as many columns as there are, so that no strike is found by it. */
    private static int columnsToGoal(int end, int team) {
        if (end >= GOAL) {
            return end == GOAL + team ? -1 : COLUMNS;
        }
        int column = end % COLUMNS;
        return team == 0 ? COLUMNS - 1 - column : column;
    }

    private int countAhead(int kind, int whale) {
        int own = measure(kind, whale);
        int ahead = 0;
        for (int other = 0; other < game.count(WHALES); other++) {
            int measured = measure(kind, other);
            if (measured > own || measured == own && other < whale) {
                ahead++;
            }
        }
        return ahead;
    }

    private int measure(int kind, int whale) {
        switch (kind) {
            case BY_BREATH:
                return game.of(whale, BREATH);
            case BY_GOALS:
                return game.of(whale, WHALE_GOALS);
            case BY_FOULS:
                return game.of(whale, WHALE_FOULS);
            case BY_STRIKES:
                return game.of(whale, WHALE_STRIKES);
            default:
                return game.of(whale, STRENGTH) + game.of(whale, SPEED);
        }
    }

    private int bestCalf(int team) {
        int found = NO_WHALE;
        for (int whale = 0; whale < game.count(WHALES); whale++) {
            boolean isCalf = game.of(whale, TEAM) == team && !game.isPlaying(whale);
            if (isCalf && (found == NO_WHALE || isFresher(whale, found))) {
                found = whale;
            }
        }
        return found;
    }

    private boolean isFresher(int whale, int other) {
        int more = game.of(whale, BREATH) - game.of(other, BREATH);
        return more > 0 || more == 0 && game.of(whale, STRENGTH) > game.of(other, STRENGTH);
    }

    // Fairness.

    private boolean areTidesAlike() {
        int now = game.count(CLOCK);
        for (int clock = now; clock <= now + FAIR_STROKES; clock++) {
            if (tideByStrokes(clock) != tideByDividing(clock)) {
                return false;
            }
        }
        return true;
    }

    private boolean areStepsAlike() {
        for (int whale = 0; whale < game.count(WHALES); whale++) {
            if (game.isPlaying(whale)) {
                routes.findBySpreading(whale);
                routes.findByLowering(whale);
                if (!routes.areAlike()) {
                    return false;
                }
            }
        }
        return true;
    }

    private boolean areFlightsAlike() {
        for (int whale = 0; whale < game.count(WHALES); whale++) {
            for (int way = 0; way < WAYS; way++) {
                for (int force = 1; force <= MOST_FORCE; force++) {
                    if (flight.endByCells(whale, way, force) != flight.endByStops(whale, way, force)) {
                        return false;
                    }
                }
            }
        }
        return true;
    }

    private boolean isPlaced() {
        for (int whale = 0; whale < game.count(WHALES); whale++) {
            if (game.isPlaying(whale) && game.whaleOn(game.of(whale, CELL)) != whale) {
                return false;
            }
        }
        return game.countPlaying(0) <= TEAM_IN_PLAY && game.countPlaying(1) <= TEAM_IN_PLAY;
    }

    private void writeCell(int cell) {
        int whale = game.whaleOn(cell);
        if (whale != NO_WHALE) {
            line.addNumber(whale);
        } else if (cell == game.count(BUOY)) {
            line.add('o');
        } else {
            line.add(game.isDryNow(cell) ? '_' : '.');
        }
    }

    // The field, and the tide.

    private static boolean isCell(int cell) {
        return cell >= 0 && cell < CELLS;
    }

    private static boolean isTeam(int team) {
        return team >= 0 && team < TEAMS;
    }

    private static boolean isWay(int way) {
        return way >= 0 && way < WAYS;
    }

    private static boolean isForce(int force) {
        return force >= 1 && force <= MOST_FORCE;
    }

    /** Only the cells of the edges ever fall dry. */
    private static boolean isEdge(int cell) {
        int row = cell / COLUMNS;
        return row == 0 || row == ROWS - 1;
    }

    /** How many cells there are ahead of a cell until the field ends. */
    private static int cellsAhead(int cell, int way) {
        int row = cell / COLUMNS;
        int column = cell % COLUMNS;
        if (way == NORTH) {
            return row;
        }
        if (way == EAST) {
            return COLUMNS - 1 - column;
        }
        return way == SOUTH ? ROWS - 1 - row : column;
    }

    private static int stride(int way) {
        if (way == NORTH) {
            return -COLUMNS;
        }
        if (way == EAST) {
            return 1;
        }
        return way == SOUTH ? COLUMNS : -1;
    }

    private static int nextCell(int cell, int way) {
        return cellsAhead(cell, way) > 0 ? cell + stride(way) : NEVER;
    }

    private static int between(int cell, int other) {
        int rows = Math.abs(cell / COLUMNS - other / COLUMNS);
        int columns = Math.abs(cell % COLUMNS - other % COLUMNS);
        return rows + columns;
    }

    private static boolean isGoalEnd(int cell, int way) {
        return (way == EAST || way == WEST) && !isEdge(cell);
    }

    private static int goalAt(int way) {
        return way == EAST ? GOAL : GOAL + 1;
    }

    private static int tideByStrokes(int clock) {
        int height = HIGH_TIDE;
        boolean falls = true;
        for (int stroke = 0; stroke < clock; stroke++) {
            height += falls ? -1 : 1;
            if (height == 0 || height == HIGH_TIDE) {
                falls = height == HIGH_TIDE;
            }
        }
        return height;
    }

    private static int tideByDividing(int clock) {
        int sinceHigh = clock % (2 * HIGH_TIDE);
        return sinceHigh <= HIGH_TIDE ? HIGH_TIDE - sinceHigh : sinceHigh - HIGH_TIDE;
    }

    /** All that the history remembers of a game. */
    private static final class Game {

        private final int[] whales = new int[ALL_WHALES * WHALE_NUMBERS];
        private final int[] counts = new int[COUNTS];

        Game() {
            setCount(BUOY, CENTRE);
            setCount(RIGHT, NO_TEAM);
        }

        void copyFrom(Game other) {
            if (other != null) {
                System.arraycopy(other.whales, 0, whales, 0, whales.length);
                System.arraycopy(other.counts, 0, counts, 0, counts.length);
            }
        }

        int count(int what) {
            return what >= 0 && what < counts.length ? counts[what] : 0;
        }

        private void setCount(int what, int number) {
            if (what >= 0 && what < counts.length) {
                counts[what] = number;
            }
        }

        private void addCount(int what, int more) {
            setCount(what, count(what) + more);
        }

        int of(int whale, int what) {
            int index = whale * WHALE_NUMBERS + what;
            return index >= 0 && index < whales.length ? whales[index] : 0;
        }

        private void set(int whale, int what, int number) {
            int index = whale * WHALE_NUMBERS + what;
            if (index >= 0 && index < whales.length) {
                whales[index] = number;
            }
        }

        private void add(int whale, int what, int more) {
            set(whale, what, of(whale, what) + more);
        }

        boolean has(int whale) {
            return whale >= 0 && whale < count(WHALES);
        }

        boolean isOver() {
            return count(CLOCK) >= GAME_STROKES;
        }

        boolean isDryNow(int cell) {
            return isEdge(cell) && tideByDividing(count(CLOCK)) <= DRY_TIDE;
        }

        /** In how many strokes the edges fall dry, or wet if they are dry. */
        int strokesToTurn() {
            int now = count(CLOCK);
            boolean isLow = tideByDividing(now) <= DRY_TIDE;
            int strokes = 1;
            while (strokes < 2 * HIGH_TIDE && (tideByDividing(now + strokes) <= DRY_TIDE) == isLow) {
                strokes++;
            }
            return strokes;
        }

        boolean isPlaying(int whale) {
            return of(whale, CELL) != BENCH;
        }

        boolean isStranded(int whale) {
            int cell = of(whale, CELL);
            return cell != BENCH && isDryNow(cell);
        }

        int whaleOn(int cell) {
            for (int whale = 0; whale < count(WHALES); whale++) {
                if (of(whale, CELL) == cell) {
                    return whale;
                }
            }
            return NO_WHALE;
        }

        int countOf(int team) {
            int found = 0;
            for (int whale = 0; whale < count(WHALES); whale++) {
                found += of(whale, TEAM) == team ? 1 : 0;
            }
            return found;
        }

        int countPlaying(int team) {
            int found = 0;
            for (int whale = 0; whale < count(WHALES); whale++) {
                found += of(whale, TEAM) == team && isPlaying(whale) ? 1 : 0;
            }
            return found;
        }

        /** The cell on which the next whale of a team would begin, or the bench. */
        int firstCell(int team) {
            int earlier = countOf(team);
            if (earlier >= TEAM_IN_PLAY) {
                return BENCH;
            }
            int top = team == 0 ? COLUMNS + 1 : 2 * COLUMNS - 2;
            return top + earlier * COLUMNS;
        }

        boolean isNearBuoy(int whale) {
            int cell = of(whale, CELL);
            return cell != BENCH && between(cell, count(BUOY)) <= 1;
        }

        boolean isFoulBy(int whale) {
            int right = count(RIGHT);
            if (right == NO_TEAM || right == of(whale, TEAM)) {
                return false;
            }
            for (int other = 0; other < count(WHALES); other++) {
                if (of(other, TEAM) == right && of(other, SINGS) == 1 && isNearBuoy(other)) {
                    return true;
                }
            }
            return false;
        }

        int addWhale(int team, int strength, int speed) {
            int whale = count(WHALES);
            set(whale, CELL, firstCell(team));
            set(whale, TEAM, team);
            set(whale, STRENGTH, strength);
            set(whale, SPEED, speed);
            set(whale, BREATH, MOST_BREATH);
            addCount(WHALES, 1);
            return whale;
        }

        int substitute(int out, int in) {
            int team = of(out, TEAM);
            set(in, CELL, of(out, CELL));
            set(out, CELL, BENCH);
            set(out, SINGS, 0);
            addCount(SUBSTITUTIONS, 1);
            addCount(TEAM_SUBSTITUTIONS + team, 1);
            addCount(CHUKKA_MADE + team, 1);
            int left = CHUKKA_SUBSTITUTIONS - count(CHUKKA_MADE + team);
            endStroke();
            return left;
        }

        int move(int whale, int cell, int steps) {
            set(whale, CELL, cell);
            add(whale, BREATH, -steps);
            set(whale, SINGS, 0);
            endStroke();
            return steps;
        }

        /** The end is the cell where the buoy comes to, or the goal of the end by which it leaves, foul or not. */
        int hit(int whale, int end, boolean isNetted, boolean isFoul) {
            boolean isOut = end >= GOAL;
            boolean isGoal = isOut && !isFoul;
            int team = of(whale, TEAM);
            countStrike(whale, isFoul);
            addCount(NETS, isNetted ? 1 : 0);
            setCount(BUOY, isOut ? CENTRE : end);
            if (isGoal) {
                countGoal(whale, end - GOAL);
                setCount(RIGHT, NO_TEAM);
            } else if (!isFoul) {
                setCount(RIGHT, isNetted ? 1 - team : team);
            }
            int answer = isGoal ? end : count(BUOY);
            endStroke();
            return answer;
        }

        private void countStrike(int whale, boolean isFoul) {
            add(whale, BREATH, -1);
            add(whale, WHALE_STRIKES, 1);
            addCount(STRIKES, 1);
            if (isFoul) {
                add(whale, WHALE_FOULS, 1);
                addCount(FOULS, 1);
            }
        }

        private void countGoal(int whale, int team) {
            addCount(GOALS + team, 1);
            if (of(whale, TEAM) == team) {
                add(whale, WHALE_GOALS, 1);
            }
        }

        int startSong(int whale) {
            add(whale, BREATH, -1);
            set(whale, SINGS, 1);
            int left = of(whale, BREATH);
            endStroke();
            return left;
        }

        int endStroke() {
            addCount(CLOCK, 1);
            int clock = count(CLOCK);
            if (clock % CHUKKA_STROKES == 0) {
                endChukka();
            }
            return clock;
        }

        private void endChukka() {
            setCount(BUOY, CENTRE);
            setCount(RIGHT, NO_TEAM);
            setCount(CHUKKA_MADE, 0);
            setCount(CHUKKA_MADE + 1, 0);
            for (int whale = 0; whale < count(WHALES); whale++) {
                set(whale, SINGS, 0);
                set(whale, BREATH, Math.min(of(whale, BREATH) + REST, MOST_BREATH));
            }
        }
    }

    /** The changes that can be undone, as the game was ahead of each. */
    private static final class History {

        private final Game[] past = new Game[MOST_CHANGES];
        private int oldest = 0;
        private int size = 0;

        History() {
            for (int change = 0; change < past.length; change++) {
                past[change] = new Game();
            }
        }

        int size() {
            return size;
        }

        void remember(Game game) {
            if (size == MOST_CHANGES) {
                oldest = (oldest + 1) % MOST_CHANGES;
                size--;
            }
            Game slot = slotOf(size);
            if (slot != null) {
                slot.copyFrom(game);
                size++;
            }
        }

        void takeBack(Game game) {
            if (size > 0 && game != null) {
                size--;
                game.copyFrom(slotOf(size));
            }
        }

        void forgetAll() {
            size = 0;
        }

        private Game slotOf(int change) {
            int slot = (oldest + change) % MOST_CHANGES;
            return slot >= 0 && slot < past.length ? past[slot] : null;
        }
    }

    /** The fewest steps of a whale to all cells, in two ways. */
    private static final class Routes {

        private static final int FAR = 1000;

        private final Game game;
        private final int[] spread = new int[CELLS];
        private final int[] lowered = new int[CELLS];
        private final boolean[] open = new boolean[CELLS];

        Routes(Game game) {
            this.game = game;
        }

        int spreadTo(int cell) {
            return isCell(cell) && spread[cell] < FAR ? spread[cell] : NEVER;
        }

        int loweredTo(int cell) {
            return isCell(cell) && lowered[cell] < FAR ? lowered[cell] : NEVER;
        }

        boolean areAlike() {
            for (int cell = 0; cell < CELLS; cell++) {
                if (spreadTo(cell) != loweredTo(cell)) {
                    return false;
                }
            }
            return true;
        }

        int countWithin(int steps) {
            int found = 0;
            for (int cell = 0; cell < spread.length; cell++) {
                found += spread[cell] > 0 && spread[cell] <= steps ? 1 : 0;
            }
            return found;
        }

        void findBySpreading(int whale) {
            begin(spread, whale);
            boolean grows = true;
            for (int steps = 0; steps < CELLS && grows; steps++) {
                grows = false;
                for (int cell = 0; cell < spread.length; cell++) {
                    if (spread[cell] == steps && spreadFrom(cell, steps + 1)) {
                        grows = true;
                    }
                }
            }
        }

        private boolean spreadFrom(int cell, int steps) {
            boolean grows = false;
            for (int way = 0; way < WAYS; way++) {
                int next = nextCell(cell, way);
                if (isCell(next) && open[next] && spread[next] == FAR) {
                    spread[next] = steps;
                    grows = true;
                }
            }
            return grows;
        }

        void findByLowering(int whale) {
            begin(lowered, whale);
            boolean falls = true;
            for (int round = 0; round < CELLS && falls; round++) {
                falls = false;
                for (int cell = 0; cell < open.length; cell++) {
                    if (open[cell] && lowerAt(cell)) {
                        falls = true;
                    }
                }
            }
        }

        private boolean lowerAt(int cell) {
            boolean falls = false;
            for (int way = 0; way < WAYS; way++) {
                int next = nextCell(cell, way);
                if (isCell(cell) && isCell(next) && lowered[next] + 1 < lowered[cell]) {
                    lowered[cell] = lowered[next] + 1;
                    falls = true;
                }
            }
            return falls;
        }

        private void begin(int[] steps, int whale) {
            for (int cell = 0; cell < open.length; cell++) {
                open[cell] = !game.isDryNow(cell);
            }
            for (int other = 0; other < game.count(WHALES); other++) {
                int cell = game.of(other, CELL);
                if (isCell(cell)) {
                    open[cell] = false;
                }
            }
            for (int cell = 0; cell < steps.length; cell++) {
                steps[cell] = FAR;
            }
            int start = game.of(whale, CELL);
            if (start >= 0 && start < steps.length) {
                steps[start] = 0;
            }
        }
    }

    /** Where a struck buoy comes to, in two ways. */
    private static final class Flight {

        private final Game game;
        private boolean isNetted = false;

        Flight(Game game) {
            this.game = game;
        }

        /** Whether the buoy that went last cell by cell ended in the nets. */
        boolean isNetted() {
            return isNetted;
        }

        int endByCells(int whale, int way, int force) {
            int end = goByCells(whale, way, force);
            return end >= GOAL && game.isFoulBy(whale) ? CENTRE : end;
        }

        /** The cell, or the goal of the end by which the buoy leaves, as if no strike were a foul. */
        int goByCells(int whale, int way, int force) {
            isNetted = false;
            int cell = game.count(BUOY);
            for (int gone = 0; gone < force; gone++) {
                int next = nextCell(cell, way);
                if (!isCell(next)) {
                    isNetted = !isGoalEnd(cell, way);
                    return isNetted ? cell : goalAt(way);
                }
                int ahead = game.whaleOn(next);
                if (ahead != NO_WHALE && ahead != whale) {
                    return cell;
                }
                if (game.isDryNow(next)) {
                    isNetted = true;
                    return cell;
                }
                cell = next;
            }
            return cell;
        }

        int endByStops(int whale, int way, int force) {
            int buoy = game.count(BUOY);
            int toEnd = cellsAhead(buoy, way);
            int room = Math.min(toEnd, Math.min(cellsToWhale(whale, way), cellsToDry(way)));
            if (force > toEnd && room == toEnd && isGoalEnd(buoy, way)) {
                return game.isFoulBy(whale) ? CENTRE : goalAt(way);
            }
            return buoy + Math.min(force, room) * stride(way);
        }

        private int cellsToWhale(int striker, int way) {
            int room = CELLS;
            for (int whale = 0; whale < game.count(WHALES); whale++) {
                if (whale != striker && game.isPlaying(whale)) {
                    int ahead = howFarAhead(game.of(whale, CELL), way);
                    room = ahead > 0 ? Math.min(room, ahead - 1) : room;
                }
            }
            return room;
        }

        private int cellsToDry(int way) {
            int buoy = game.count(BUOY);
            if (way == EAST || way == WEST) {
                return game.isDryNow(buoy) ? 0 : CELLS;
            }
            int toEnd = cellsAhead(buoy, way);
            boolean isDryAhead = toEnd > 0 && game.isDryNow(buoy + toEnd * stride(way));
            return isDryAhead ? toEnd - 1 : CELLS;
        }

        /** How many cells a cell lies ahead of the buoy, 0 if it does not. */
        private int howFarAhead(int cell, int way) {
            int rows = cell / COLUMNS - game.count(BUOY) / COLUMNS;
            int columns = cell % COLUMNS - game.count(BUOY) % COLUMNS;
            boolean isUpright = way == NORTH || way == SOUTH;
            if ((isUpright ? columns : rows) != 0) {
                return 0;
            }
            int far = isUpright ? rows : columns;
            return Math.max(way == EAST || way == SOUTH ? far : -far, 0);
        }
    }

    /** What is wrong with a call that would change the game. */
    private static final class Umpire {

        private final Game game;
        private final Routes routes;
        private int detail = 0;

        Umpire(Game game, Routes routes) {
            this.game = game;
            this.routes = routes;
        }

        int detail() {
            return detail;
        }

        private int refuse(int fault, int with) {
            detail = with;
            return fault;
        }

        int comeFault(int team, int strength, int speed) {
            boolean isStrength = strength >= 1 && strength <= MOST_STRENGTH;
            boolean isSpeed = speed >= 1 && speed <= MOST_SPEED;
            if (!isTeam(team) || !isStrength || !isSpeed) {
                return OUT_OF_RANGE;
            }
            if (game.countOf(team) >= TEAM_WHALES) {
                return refuse(FULL_TEAM, TEAM_WHALES);
            }
            int cell = game.firstCell(team);
            int there = cell == BENCH ? NO_WHALE : game.whaleOn(cell);
            return there == NO_WHALE ? FINE : refuse(TAKEN, there);
        }

        int passFault() {
            return game.isOver() ? refuse(GAME_OVER, game.count(CLOCK)) : FINE;
        }

        private int playFault(int whale) {
            if (!game.has(whale)) {
                return MISSING;
            }
            if (game.isOver()) {
                return refuse(GAME_OVER, game.count(CLOCK));
            }
            return game.isPlaying(whale) ? FINE : refuse(ON_BENCH, whale);
        }

        private int freeFault(int whale) {
            int fault = playFault(whale);
            if (fault != FINE) {
                return fault;
            }
            return game.isStranded(whale) ? refuse(STRANDED, game.of(whale, CELL)) : FINE;
        }

        private int breathFault(int whale, int needed) {
            int breath = game.of(whale, BREATH);
            return breath < needed ? refuse(NO_BREATH, breath) : FINE;
        }

        int substituteFault(int out, int in) {
            if (!game.has(in)) {
                return MISSING;
            }
            int fault = playFault(out);
            if (fault != FINE) {
                return fault;
            }
            int team = game.of(in, TEAM);
            if (game.of(out, TEAM) != team) {
                return refuse(TWO_TEAMS, team);
            }
            if (game.isPlaying(in)) {
                return refuse(CALF_PLAYS, game.of(in, CELL));
            }
            if (game.count(CHUKKA_MADE + team) >= CHUKKA_SUBSTITUTIONS) {
                return refuse(ALL_SUBSTITUTED, game.count(TEAM_SUBSTITUTIONS + team));
            }
            return FINE;
        }

        int moveFault(int whale, int cell) {
            if (!isCell(cell)) {
                return MISSING;
            }
            int fault = freeFault(whale);
            if (fault != FINE) {
                return fault;
            }
            int there = game.whaleOn(cell);
            if (there != NO_WHALE) {
                return refuse(TAKEN, there);
            }
            if (game.isDryNow(cell)) {
                return refuse(DRY_CELL, tideByDividing(game.count(CLOCK)));
            }
            routes.findBySpreading(whale);
            int steps = routes.spreadTo(cell);
            if (steps == NEVER || steps > game.of(whale, SPEED)) {
                return refuse(TOO_FAR, steps);
            }
            return breathFault(whale, steps);
        }

        int hitFault(int whale, int way, int force) {
            if (!game.has(whale)) {
                return MISSING;
            }
            if (!isWay(way) || !isForce(force)) {
                return OUT_OF_RANGE;
            }
            int fault = freeFault(whale);
            if (fault != FINE) {
                return fault;
            }
            if (!game.isNearBuoy(whale)) {
                return refuse(BUOY_FAR, between(game.of(whale, CELL), game.count(BUOY)));
            }
            if (force > game.of(whale, STRENGTH)) {
                return refuse(TOO_WEAK, game.of(whale, STRENGTH));
            }
            return breathFault(whale, 1);
        }

        int songFault(int whale) {
            int fault = playFault(whale);
            if (fault != FINE) {
                return fault;
            }
            return game.of(whale, SINGS) == 1 ? refuse(SINGING, whale) : breathFault(whale, 1);
        }
    }

    /** The input, and the command of it that was taken last. */
    private static final class Text {

        private static final int MOST_NUMBERS = 3;
        private static final char END = 0;

        private final char[] input = new char[MOST_INPUT];
        private final int[] numbers = new int[MOST_NUMBERS];
        private int length = 0;
        private int cursor = 0;
        private int kind = NO_COMMAND;
        private int told = 0;
        private int done = 0;

        int length() {
            return length;
        }

        int add(char sign) {
            if (length >= 0 && length < input.length) {
                input[length] = sign;
                length++;
            }
            return length;
        }

        void clear() {
            length = 0;
        }

        void rewind() {
            cursor = 0;
            done = 0;
        }

        void countDone() {
            done++;
        }

        int doneCommands() {
            return done;
        }

        int kind() {
            return kind;
        }

        int number(int place) {
            return place >= 0 && place < numbers.length ? numbers[place] : 0;
        }

        /** Where the input is malformed, or never. */
        int errorAt() {
            rewind();
            for (int command = 0; command <= MOST_INPUT; command++) {
                if (!takeCommand()) {
                    return cursor;
                }
                if (cursor >= length) {
                    return NEVER;
                }
                if (here() != ';') {
                    return cursor;
                }
                cursor++;
            }
            return cursor;
        }

        /** Takes the next command of an input that is not malformed, if there is one. */
        boolean takeNext() {
            if (cursor >= length) {
                return false;
            }
            if (here() == ';') {
                cursor++;
            }
            return takeCommand();
        }

        /** If no command stands at the cursor, the cursor is left where it cannot go on. */
        private boolean takeCommand() {
            kind = LETTERS.indexOf(here());
            told = 0;
            if (kind == NO_COMMAND) {
                return false;
            }
            cursor++;
            String signs = signsOf(kind);
            for (int sign = 0; sign < signs.length(); sign++) {
                if (!takeSign(signs.charAt(sign))) {
                    return false;
                }
            }
            if (kind == MOVE) {
                takeSecondDigit();
            }
            return true;
        }

        /** What stands behind the letter: 0 for a digit, n for a way, and else the sign itself. */
        private static String signsOf(int kind) {
            switch (kind) {
                case COME:
                    return "000";
                case MOVE:
                    return "0@0";
                case HIT:
                    return "0n0";
                case SONG:
                    return "0";
                case SUBSTITUTE:
                    return "00";
                default:
                    return "";
            }
        }

        private boolean takeSign(char sign) {
            if (sign == '@') {
                boolean isThere = here() == '@';
                cursor += isThere ? 1 : 0;
                return isThere;
            }
            int number = sign == 'n' ? WAY_LETTERS.indexOf(here()) : digitHere();
            if (number < 0) {
                return false;
            }
            if (told >= 0 && told < numbers.length) {
                numbers[told] = number;
                told++;
            }
            cursor++;
            return true;
        }

        private void takeSecondDigit() {
            int digit = digitHere();
            int last = told - 1;
            if (digit >= 0 && last >= 0 && last < numbers.length) {
                numbers[last] = 10 * numbers[last] + digit;
                cursor++;
            }
        }

        private int digitHere() {
            char sign = here();
            return sign >= '0' && sign <= '9' ? sign - '0' : -1;
        }

        private char here() {
            return cursor >= 0 && cursor < length && cursor < input.length ? input[cursor] : END;
        }
    }

    /** The line that was written last. */
    private static final class Line {

        private final char[] signs = new char[LINE_ROOM];
        private int length = 0;

        int length() {
            return length;
        }

        char signAt(int index) {
            return index >= 0 && index < signs.length ? signs[index] : ' ';
        }

        void clear() {
            length = 0;
        }

        void add(char sign) {
            if (length >= 0 && length < signs.length) {
                signs[length] = sign;
                length++;
            }
        }

        /** No number of a line has more than two digits. */
        void addNumber(int number) {
            if (number >= 10) {
                add((char) ('0' + number / 10));
            }
            add((char) ('0' + number % 10));
        }

        void addSigned(char sign, int number) {
            add(sign);
            addNumber(number);
        }
    }
}
