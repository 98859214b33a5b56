/**
 * Makers and breakers on a board with lines. The maker wants all cells of a line, the breaker wants
 * a cell of each. What every method promises stands in the project's document.
 */
public final class MakerLines {
    /** There is nothing to return. */
    public static final int NONE = -1;

    private static final int OPEN = 0;
    private static final int MAKER = 1;
    private static final int BREAKER = 2;

    private static final int MIN_CELLS = 2;
    private static final int MAX_CELLS = 10;
    private static final int FIRST_CELLS = 9;
    private static final int MASKS = 1 << MAX_CELLS;
    /** As many ways to share the greatest board out: 3 to the power of MAX_CELLS. */
    private static final int SHARINGS = 59049;

    private static final int MAX_LINES = 12;
    private static final int FULL_WEIGHT = 1024;
    /** FULL_WEIGHT is 2 to this power. */
    private static final int FULL_WEIGHT_POWER = 10;

    private static final int RULE_LOWEST = 0;
    private static final int RULE_PAIR = 2;
    private static final int RULE_BEST = 3;
    private static final int MAX_MOVES = 10;

    private static final int MAX_CODES = 60;
    private static final int MIN_CODE = 33;
    private static final int MAX_CODE = 126;
    private static final int SNAPSHOTS = 2;
    private static final int MAX_SAVED = 6;

    private static final int LINE_LOOKS = 5;
    private static final int CELL_LOOKS = 4;
    private static final int SOLVED_LOOKS = 2;
    private static final int COUNT_LOOKS = 16;
    private static final int WIDEST_WEIGHT = 14;
    private static final int FRACTION_BITS = 52;
    private static final int EXPONENT_OF_ONE = 1023;

    private final State now;
    /** What would be is tried here. */
    private final State trial;
    private final History history;
    /** A snapshot that was not taken is null. */
    private final State[] snapshots;
    private final Text buffer;
    private final Pairing pairing;
    private final Solver solver;

    public MakerLines() {
        now = new State();
        trial = new State();
        history = new History();
        snapshots = new State[SNAPSHOTS];
        buffer = new Text();
        pairing = new Pairing();
        solver = new Solver();
    }

    // ---- board, lines

    public int begin(int cells) throws IllegalArgumentException {
        if (cells < MIN_CELLS || cells > MAX_CELLS) {
            throw new IllegalArgumentException("a board has 2 to 10 cells");
        }
        history.save(now);
        int before = now.cells;
        now.cells = cells;
        now.lines.size = 0;
        now.freeAll(true);
        return before;
    }

    public int addLine(int mask) throws IllegalArgumentException, IllegalStateException {
        if (mask == 0 || (mask & ~now.allCells()) != 0) {
            throw new IllegalArgumentException("a line has one or more cells of the board");
        }
        if (now.lines.size >= MAX_LINES) {
            throw new IllegalStateException("there are 12 lines");
        }
        history.save(now);
        now.lines.put(mask);
        return now.lines.size - 1;
    }

    public int removeLine(int line) throws IndexOutOfBoundsException {
        if (!now.lines.has(line)) {
            throw new IndexOutOfBoundsException("there is no such line");
        }
        history.save(now);
        int mask = now.lines.maskOf(line);
        now.lines.drop(line);
        return mask;
    }

    public int clear(boolean isMaker) {
        history.save(now);
        int taken = Integer.bitCount(now.maker | now.breaker);
        now.freeAll(isMaker);
        return taken;
    }

    // ---- moves

    public int move(int cell) throws IndexOutOfBoundsException, IllegalStateException {
        if (!now.hasCell(cell)) {
            throw new IndexOutOfBoundsException("there is no such cell");
        }
        if (now.winner() != OPEN || !now.isFree(cell)) {
            throw new IllegalStateException("the game is not open, or the cell is not free");
        }
        history.save(now);
        now.occupy(cell, otherInPairing(cell));
        return now.winner();
    }

    public int skip() throws IllegalStateException {
        if (now.winner() != OPEN) {
            throw new IllegalStateException("the game is not open");
        }
        history.save(now);
        now.makerMoves = !now.makerMoves;
        now.forgetLatest();
        return now.mover();
    }

    public int play(int maker, int breaker, int moves)
            throws IllegalArgumentException, IllegalStateException {
        if (!isRule(maker) || !isRule(breaker) || moves < 1 || moves > MAX_MOVES) {
            throw new IllegalArgumentException("a rule is 0 to 3, and moves are 1 to 10");
        }
        if (now.winner() != OPEN) {
            throw new IllegalStateException("the game is not open");
        }
        history.save(now);
        return goOn(now, maker, breaker, moves);
    }

    // ---- texts, snapshots

    public int append(int code) throws IllegalArgumentException, IllegalStateException {
        if (code < MIN_CODE || code > MAX_CODE) {
            throw new IllegalArgumentException("a character code is 33 to 126");
        }
        if (buffer.size >= MAX_CODES) {
            throw new IllegalStateException("the buffer has 60 characters");
        }
        buffer.put(code);
        return buffer.size;
    }

    public int clearBuffer() {
        int before = buffer.size;
        buffer.size = 0;
        return before;
    }

    public int firstError() {
        return buffer.errorAt(now.cells);
    }

    public int read() throws IllegalArgumentException, IllegalStateException {
        if (!buffer.isComplete(now.cells)) {
            throw new IllegalArgumentException("the buffer is not a complete row of lines");
        }
        if (now.lines.size + buffer.rows() > MAX_LINES) {
            throw new IllegalStateException("there would be more than 12 lines");
        }
        history.save(now);
        buffer.addTo(now.lines);
        buffer.size = 0;
        return now.lines.size;
    }

    public int take(int snapshot) throws IndexOutOfBoundsException {
        if (!isSnapshot(snapshot)) {
            throw new IndexOutOfBoundsException("a snapshot is 0 or 1");
        }
        State kept = snapshots[snapshot];
        if (kept == null) {
            kept = new State();
            snapshots[snapshot] = kept;
        }
        kept.copyBoard(now);
        return now.lines.size;
    }

    public int restore(int snapshot) throws IndexOutOfBoundsException, IllegalStateException {
        if (!isSnapshot(snapshot)) {
            throw new IndexOutOfBoundsException("a snapshot is 0 or 1");
        }
        State kept = snapshots[snapshot];
        if (kept == null) {
            throw new IllegalStateException("the snapshot was not taken");
        }
        history.save(now);
        now.copyBoard(kept);
        return now.lines.size;
    }

    public int undo() throws IllegalStateException {
        if (history.size <= 0) {
            throw new IllegalStateException("there is no saved state");
        }
        history.goBack(now);
        return history.size;
    }

    // ---- looks; nothing is changed

    public int line(int line, int what) throws IndexOutOfBoundsException, IllegalArgumentException {
        if (!now.lines.has(line)) {
            throw new IndexOutOfBoundsException("there is no such line");
        }
        if (what < 0 || what >= LINE_LOOKS) {
            throw new IllegalArgumentException("a property of a line is 0 to 4");
        }
        int mask = now.lines.maskOf(line);
        boolean isDead = (mask & now.breaker) != 0;
        int free = Integer.bitCount(mask & now.freeCells());
        switch (what) {
            case 0: return mask;
            case 1: return isDead ? 1 : 0;
            case 2: return free;
            case 3: return isDead ? 0 : FULL_WEIGHT >> free;
            default: return Integer.bitCount(mask & now.maker);
        }
    }

    public int cell(int cell, int what) throws IndexOutOfBoundsException, IllegalArgumentException {
        if (!now.hasCell(cell)) {
            throw new IndexOutOfBoundsException("there is no such cell");
        }
        if (what < 0 || what >= CELL_LOOKS) {
            throw new IllegalArgumentException("a property of a cell is 0 to 3");
        }
        switch (what) {
            case 0: return now.ownerOf(cell);
            case 1: return now.dangerOf(cell);
            case 2: return otherInPairing(cell);
            default: return now.lines.aliveWith(cell, now.breaker);
        }
    }

    public int reply(int rule) throws IllegalArgumentException {
        if (!isRule(rule)) {
            throw new IllegalArgumentException("a rule is 0 to 3");
        }
        return now.winner() == OPEN ? cellBy(rule, now) : NONE;
    }

    public int solved(int what) throws IllegalArgumentException {
        if (what < 0 || what >= SOLVED_LOOKS) {
            throw new IllegalArgumentException("what is told is 0 or 1");
        }
        int winner = now.winner();
        if (winner != OPEN) {
            return what == 0 ? winner : 0;
        }
        int length = solver.lengthOf(now);
        if (what == 0) {
            return length == NONE ? BREAKER : MAKER;
        }
        return length == NONE ? Integer.bitCount(now.freeCells()) : length;
    }

    public int ifMoved(int cell) throws IndexOutOfBoundsException {
        if (!now.hasCell(cell)) {
            throw new IndexOutOfBoundsException("there is no such cell");
        }
        if (now.winner() != OPEN || !now.isFree(cell)) {
            return NONE;
        }
        trial.copyBoard(now);
        trial.occupy(cell, NONE);
        return solver.lengthOf(trial) == NONE ? BREAKER : MAKER;
    }

    public int ifPlayed(int maker, int breaker) throws IllegalArgumentException {
        if (!isRule(maker) || !isRule(breaker)) {
            throw new IllegalArgumentException("a rule is 0 to 3");
        }
        trial.copyBoard(now);
        goOn(trial, maker, breaker, MAX_MOVES);
        return trial.winner();
    }

    public int count(int what) throws IllegalArgumentException {
        if (what < 0 || what >= COUNT_LOOKS) {
            throw new IllegalArgumentException("what is counted is 0 to 15");
        }
        int winner = now.winner();
        switch (what) {
            case 0: return now.cells;
            case 1: return now.lines.size;
            case 2: return now.lines.alive;
            case 3: return now.lines.weight;
            case 4: return winner == OPEN ? now.mover() : 0;
            case 5: return winner;
            case 6: return now.lines.threats;
            case 7: return winner == OPEN ? now.forcedReply() : NONE;
            case 8: return pairsInPairing();
            case 9: return now.freeCells();
            case 10: return now.moves;
            case 11: return now.makerWins;
            case 12: return now.breakerWins;
            case 13: return now.latest;
            case 14: return snapshotsTaken();
            default: return history.size;
        }
    }

    public double weightShare() {
        return (double) now.weight() / (double) FULL_WEIGHT;
    }

    public long digest() {
        long hash = 2503L;
        for (int what = 0; what < COUNT_LOOKS; what++) {
            hash = 31L * hash + count(what);
        }
        for (int line = 0; line < now.lines.size; line++) {
            for (int what = 0; what < LINE_LOOKS; what++) {
                hash = 31L * hash + line(line, what);
            }
        }
        for (int cell = 0; cell < now.cells; cell++) {
            for (int what = 0; what < CELL_LOOKS; what++) {
                hash = 31L * hash + cell(cell, what);
            }
            hash = 31L * hash + ifMoved(cell);
        }
        for (int rule = RULE_LOWEST; rule <= RULE_BEST; rule++) {
            hash = 31L * hash + reply(rule);
        }
        hash = 31L * hash + solved(0);
        hash = 31L * hash + solved(1);
        hash = 31L * hash + ifPlayed(1, 1);
        hash = 31L * hash + ifPlayed(1, 2);
        hash = 31L * hash + ifPlayed(2, 3);
        hash = 31L * hash + ifPlayed(3, 1);
        hash = 31L * hash + shareBits(now.weight());
        return buffer.hashOnto(hash);
    }

    // ---- what the methods above share

    private static boolean isRule(int rule) {
        return rule >= RULE_LOWEST && rule <= RULE_BEST;
    }

    private boolean isSnapshot(int snapshot) {
        return snapshot >= 0 && snapshot < snapshots.length;
    }

    private int pairsInPairing() {
        pairing.lookAt(now);
        return pairing.isFound ? pairing.size : NONE;
    }

    private int otherInPairing(int cell) {
        pairing.lookAt(now);
        return pairing.otherOf(cell);
    }

    private int snapshotsTaken() {
        int taken = 0;
        for (int i = 0; i < snapshots.length; i++) {
            if (snapshots[i] != null) {
                taken++;
            }
        }
        return taken;
    }

    /** Makes at most so many moves by rules, and returns how many. */
    private int goOn(State state, int maker, int breaker, int moves) {
        int made = 0;
        while (made < moves && state.winner() == OPEN) {
            int cell = cellBy(state.makerMoves ? maker : breaker, state);
            pairing.lookAt(state);
            state.occupy(cell, pairing.otherOf(cell));
            made++;
        }
        return made;
    }

    /** The cell that a rule tells the mover of an open game. */
    private int cellBy(int rule, State state) {
        if (rule == RULE_LOWEST) {
            return lowestOf(state.freeCells());
        }
        if (rule == RULE_BEST) {
            return solver.bestMove(state);
        }
        if (rule == RULE_PAIR && state.latestOther != NONE) {
            return state.latestOther;
        }
        int forced = state.forcedReply();
        return forced == NONE ? state.mostDangerous() : forced;
    }

    private static int lowestOf(int mask) {
        for (int cell = 0; cell < MAX_CELLS; cell++) {
            if ((mask & 1 << cell) != 0) {
                return cell;
            }
        }
        return NONE;
    }

    /**
     * The bits of a weight as a double, divided by FULL_WEIGHT. They are put together by hand, as the
     * language of the project has no call that tells them.
     */
    private static long shareBits(int weight) {
        if (weight <= 0) {
            return 0L;
        }
        int top = 0;
        for (int bit = 1; bit < WIDEST_WEIGHT; bit++) {
            if (weight >> bit != 0) {
                top = bit;
            }
        }
        long exponent = (long) (EXPONENT_OF_ONE + top - FULL_WEIGHT_POWER);
        long fraction = (long) (weight - (1 << top)) << (FRACTION_BITS - top);
        return (exponent << FRACTION_BITS) + fraction;
    }

    /** The lines of a board as masks, and what a look at all of them finds. */
    private static final class Lines {
        final int[] masks = new int[MAX_LINES];
        int size = 0;

        /** The fields from here on hold what the latest survey has found. */
        int winner = BREAKER;
        int alive = 0;
        int weight = 0;
        int threats = 0;

        boolean has(int line) {
            return line >= 0 && line < size && line < masks.length;
        }

        int maskOf(int line) {
            return line >= 0 && line < size && line < masks.length ? masks[line] : 0;
        }

        void put(int mask) {
            if (size >= 0 && size < masks.length) {
                masks[size] = mask;
                size++;
            }
        }

        void drop(int line) {
            if (has(line)) {
                for (int i = line + 1; i < size && i < masks.length; i++) {
                    masks[i - 1] = masks[i];
                }
                size--;
            }
        }

        void copy(Lines other) {
            for (int i = 0; i < other.size && i < other.masks.length && i < masks.length; i++) {
                masks[i] = other.masks[i];
            }
            size = other.size;
        }

        boolean areSame(Lines other) {
            if (size != other.size) {
                return false;
            }
            for (int i = 0; i < size && i < masks.length && i < other.masks.length; i++) {
                if (masks[i] != other.masks[i]) {
                    return false;
                }
            }
            return true;
        }

        void survey(int maker, int breaker) {
            boolean isFull = false;
            alive = 0;
            weight = 0;
            threats = 0;
            for (int i = 0; i < size && i < masks.length; i++) {
                if ((masks[i] & breaker) == 0) {
                    int free = masks[i] & ~maker;
                    int many = Integer.bitCount(free);
                    alive++;
                    weight += FULL_WEIGHT >> many;
                    isFull = isFull || many == 0;
                    threats |= many == 1 ? free : 0;
                }
            }
            winner = alive == 0 ? BREAKER : OPEN;
            winner = isFull ? MAKER : winner;
        }

        int weightWith(int cell, int maker, int breaker) {
            int sum = 0;
            for (int i = 0; i < size && i < masks.length; i++) {
                if ((masks[i] & 1 << cell) != 0 && (masks[i] & breaker) == 0) {
                    sum += FULL_WEIGHT >> Integer.bitCount(masks[i] & ~maker);
                }
            }
            return sum;
        }

        int aliveWith(int cell, int breaker) {
            int many = 0;
            for (int i = 0; i < size && i < masks.length; i++) {
                if ((masks[i] & 1 << cell) != 0 && (masks[i] & breaker) == 0) {
                    many++;
                }
            }
            return many;
        }
    }

    /** All that a saved state keeps. */
    private static final class State {
        final Lines lines = new Lines();
        int cells = FIRST_CELLS;
        int maker = 0;
        int breaker = 0;
        boolean makerMoves = true;
        int latest = NONE;
        /** The other cell of the latest one's pair in the pairing ahead of that move. */
        int latestOther = NONE;
        int moves = 0;
        int makerWins = 0;
        int breakerWins = 0;

        /** Copies all but what is counted so far. */
        void copyBoard(State other) {
            lines.copy(other.lines);
            cells = other.cells;
            maker = other.maker;
            breaker = other.breaker;
            makerMoves = other.makerMoves;
            latest = other.latest;
            latestOther = other.latestOther;
        }

        void copyAll(State other) {
            copyBoard(other);
            moves = other.moves;
            makerWins = other.makerWins;
            breakerWins = other.breakerWins;
        }

        void freeAll(boolean isMaker) {
            maker = 0;
            breaker = 0;
            makerMoves = isMaker;
            forgetLatest();
        }

        void forgetLatest() {
            latest = NONE;
            latestOther = NONE;
        }

        void occupy(int cell, int other) {
            if (makerMoves) {
                maker |= 1 << cell;
            } else {
                breaker |= 1 << cell;
            }
            makerMoves = !makerMoves;
            latest = cell;
            latestOther = other;
            moves++;
            int winner = winner();
            makerWins += winner == MAKER ? 1 : 0;
            breakerWins += winner == BREAKER ? 1 : 0;
        }

        int allCells() {
            return (1 << cells) - 1;
        }

        int freeCells() {
            return allCells() & ~(maker | breaker);
        }

        boolean hasCell(int cell) {
            return cell >= 0 && cell < cells;
        }

        boolean isFree(int cell) {
            return (freeCells() & 1 << cell) != 0;
        }

        int ownerOf(int cell) {
            if (isFree(cell)) {
                return 0;
            }
            return (maker & 1 << cell) != 0 ? MAKER : BREAKER;
        }

        int mover() {
            return makerMoves ? MAKER : BREAKER;
        }

        int winner() {
            lines.survey(maker, breaker);
            return lines.winner;
        }

        int weight() {
            lines.survey(maker, breaker);
            return lines.weight;
        }

        /** The maker takes the lowest threat to win, the breaker has to take it: it is the same cell. */
        int forcedReply() {
            lines.survey(maker, breaker);
            return lowestOf(lines.threats);
        }

        int dangerOf(int cell) {
            return isFree(cell) ? lines.weightWith(cell, maker, breaker) : 0;
        }

        int mostDangerous() {
            int free = freeCells();
            int best = NONE;
            int greatest = NONE;
            for (int cell = 0; cell < MAX_CELLS; cell++) {
                if ((free & 1 << cell) != 0) {
                    int danger = lines.weightWith(cell, maker, breaker);
                    if (danger > greatest) {
                        greatest = danger;
                        best = cell;
                    }
                }
            }
            return best;
        }
    }

    /** The saved states, the oldest one first. */
    private static final class History {
        /** A place that was not used yet is null; states of places are used again. */
        final State[] states = new State[MAX_SAVED];
        int size = 0;

        void save(State state) {
            if (size >= states.length) {
                dropOldest();
            }
            if (size >= 0 && size < states.length) {
                State place = states[size];
                if (place == null) {
                    place = new State();
                    states[size] = place;
                }
                place.copyAll(state);
                size++;
            }
        }

        private void dropOldest() {
            if (states.length > 0) {
                State oldest = states[0];
                for (int i = 1; i < states.length; i++) {
                    states[i - 1] = states[i];
                }
                states[states.length - 1] = oldest;
                size = states.length - 1;
            }
        }

        void goBack(State state) {
            if (size > 0 && size <= states.length) {
                size--;
                State latest = states[size];
                if (latest != null) {
                    state.copyAll(latest);
                }
            }
        }
    }

    /** The buffer: a row of lines as a text, as far as it is typed. */
    private static final class Text {
        final int[] codes = new int[MAX_CODES];
        int size = 0;

        void put(int code) {
            if (size >= 0 && size < codes.length) {
                codes[size] = code;
                size++;
            }
        }

        /** The index of the first syntax error; the size if there is none. */
        int errorAt(int cells) {
            int least = 0;
            for (int i = 0; i < size && i < codes.length; i++) {
                int digit = codes[i] - '0';
                if (codes[i] == ';' && least > 0) {
                    least = 0;
                } else if (digit >= least && digit < cells) {
                    least = digit + 1;
                } else {
                    return i;
                }
            }
            return size;
        }

        boolean isComplete(int cells) {
            if (size <= 0 || size > codes.length) {
                return false;
            }
            return codes[size - 1] != ';' && errorAt(cells) == size;
        }

        /** How many lines a complete text has. */
        int rows() {
            int many = 1;
            for (int i = 0; i < size && i < codes.length; i++) {
                if (codes[i] == ';') {
                    many++;
                }
            }
            return many;
        }

        /** Adds the lines of a complete text. */
        void addTo(Lines lines) {
            int mask = 0;
            for (int i = 0; i < size && i < codes.length; i++) {
                if (codes[i] == ';') {
                    lines.put(mask);
                    mask = 0;
                } else {
                    mask |= 1 << (codes[i] - '0');
                }
            }
            lines.put(mask);
        }

        long hashOnto(long hash) {
            long longer = 31L * hash + size;
            for (int i = 0; i < size && i < codes.length; i++) {
                longer = 31L * longer + codes[i];
            }
            return longer;
        }
    }

    /** The pairing of the board that was looked at last. */
    private static final class Pairing {
        private final Lines lines = new Lines();
        private int maker = 0;
        private int breaker = 0;
        private final int[] pairs = new int[MAX_CELLS / 2];
        int size = 0;
        boolean isFound = true;

        void lookAt(State state) {
            if (maker != state.maker || breaker != state.breaker || !lines.areSame(state.lines)) {
                lines.copy(state.lines);
                maker = state.maker;
                breaker = state.breaker;
                size = 0;
                isFound = pairFrom(0, maker | breaker);
            }
        }

        /** The other cell of the pair of a cell; NONE if there is none. */
        int otherOf(int cell) {
            for (int i = 0; i < size && i < pairs.length; i++) {
                if ((pairs[i] & 1 << cell) != 0) {
                    return lowestOf(pairs[i] & ~(1 << cell));
                }
            }
            return NONE;
        }

        /** Whether the lines from this one on can be paired by cells that are not used so far. */
        private boolean pairFrom(int line, int used) {
            if (!lines.has(line)) {
                return true;
            }
            int mask = lines.maskOf(line);
            if (!needsPair(mask)) {
                return pairFrom(line + 1, used);
            }
            if (isHopeless(line, used)) {
                return false;
            }
            int open = mask & ~used;
            for (int low = 0; low < MAX_CELLS; low++) {
                for (int high = low + 1; high < MAX_CELLS; high++) {
                    int pair = (1 << low) | (1 << high);
                    if ((open & pair) == pair && pairBy(pair, line, used)) {
                        return true;
                    }
                }
            }
            return false;
        }

        private boolean pairBy(int pair, int line, int used) {
            if (size < 0 || size >= pairs.length) {
                return false;
            }
            pairs[size] = pair;
            size++;
            if (pairFrom(line + 1, used | pair)) {
                return true;
            }
            size--;
            return false;
        }

        private boolean needsPair(int mask) {
            for (int i = 0; i < size && i < pairs.length; i++) {
                if ((pairs[i] & ~mask) == 0) {
                    return false;
                }
            }
            return (mask & breaker) == 0;
        }

        /** Whether a later line has no pair left: known early, it spares most of the tries. */
        private boolean isHopeless(int line, int used) {
            for (int later = line; later < MAX_LINES; later++) {
                int mask = lines.maskOf(later);
                if (mask != 0 && Integer.bitCount(mask & ~used) < 2 && needsPair(mask)) {
                    return true;
                }
            }
            return false;
        }
    }

    /**
     * Solves boards. The length of a position is the number of moves in which the maker wins by best
     * play, 0 if he has won; NONE if it is the breaker who wins, or has won.
     */
    private static final class Solver {
        private static final int UNKNOWN = -2;
        /** Above each length. */
        private static final int FAR = 100;
        /** A known length, by 1 greater so that none is less than 0, takes so many bits. */
        private static final int LENGTH_BITS = 4;
        private static final int LENGTH_MASK = 15;

        private final Lines lines = new Lines();
        private int allCells = 0;
        private boolean isMakerEven = true;
        /** The lengths that are known, each with the number of the board it was found for. */
        private final int[] known = new int[SHARINGS];
        private int board = 1;
        /** For each mask the sum of 3 to the power of its cells: so a sharing is told by a number. */
        private final int[] powers = new int[MASKS];

        Solver() {
            int power = 1;
            for (int cell = 0; cell < MAX_CELLS; cell++) {
                for (int mask = 0; mask < powers.length; mask++) {
                    powers[mask] += (mask & 1 << cell) != 0 ? power : 0;
                }
                power *= 3;
            }
        }

        int lengthOf(State state) {
            prepare(state);
            return search(state.maker, state.breaker, state.makerMoves, 0);
        }

        /** The lowest free cell behind which it stands best for the mover of an open game. */
        int bestMove(State state) {
            prepare(state);
            boolean forMaker = state.makerMoves;
            int free = state.freeCells();
            int best = NONE;
            int greatest = NONE;
            for (int cell = 0; cell < MAX_CELLS; cell++) {
                int bit = free & 1 << cell;
                if (bit != 0) {
                    int maker = forMaker ? state.maker | bit : state.maker;
                    int breaker = forMaker ? state.breaker : state.breaker | bit;
                    int rank = rankOf(search(maker, breaker, !forMaker, 1), forMaker);
                    if (rank > greatest) {
                        greatest = rank;
                        best = cell;
                    }
                }
            }
            return best;
        }

        private static int rankOf(int length, boolean forMaker) {
            if (forMaker) {
                return length == NONE ? 0 : FAR - length;
            }
            return length == NONE ? FAR : length;
        }

        /** Forgets the lengths that are known if they are those of another board. */
        private void prepare(State state) {
            int taken = Integer.bitCount(state.maker | state.breaker);
            boolean isEven = state.makerMoves == ((taken & 1) == 0);
            boolean isSame = allCells == state.allCells() && isMakerEven == isEven;
            if (!isSame || !lines.areSame(state.lines)) {
                lines.copy(state.lines);
                allCells = state.allCells();
                isMakerEven = isEven;
                board++;
            }
        }

        private int search(int maker, int breaker, boolean makerMoves, int depth) {
            if (depth > MAX_CELLS) {
                return NONE;
            }
            int place = placeOf(maker, breaker);
            int length = recall(place);
            if (length == UNKNOWN) {
                lines.survey(maker, breaker);
                if (lines.winner != OPEN) {
                    length = lines.winner == MAKER ? 0 : NONE;
                } else if (makerMoves) {
                    length = shortest(maker, breaker, depth);
                } else {
                    length = longest(maker, breaker, depth);
                }
                keep(place, length);
            }
            return length;
        }

        /** The length of an open position that was surveyed, if the maker is the mover. */
        private int shortest(int maker, int breaker, int depth) {
            if (lines.threats != 0) {
                return 1;
            }
            int free = allCells & ~(maker | breaker);
            int best = NONE;
            for (int cell = 0; cell < MAX_CELLS; cell++) {
                if ((free & 1 << cell) != 0) {
                    int length = search(maker | 1 << cell, breaker, false, depth + 1);
                    if (length != NONE && (best == NONE || length + 1 < best)) {
                        best = length + 1;
                    }
                }
            }
            return best;
        }

        /** The length of an open position that was surveyed, if the breaker is the mover. */
        private int longest(int maker, int breaker, int depth) {
            if (lines.weight < FULL_WEIGHT) {
                return NONE;
            }
            int threats = lines.threats;
            if (Integer.bitCount(threats) > 1) {
                return 2;
            }
            // Behind any other reply than to the threat the maker wins at once.
            int tries = threats != 0 ? threats : allCells & ~(maker | breaker);
            int best = 0;
            for (int cell = 0; cell < MAX_CELLS; cell++) {
                if ((tries & 1 << cell) != 0) {
                    int length = search(maker, breaker | 1 << cell, true, depth + 1);
                    if (length == NONE) {
                        return NONE;
                    }
                    best = Math.max(best, length + 1);
                }
            }
            return best;
        }

        private int placeOf(int maker, int breaker) {
            boolean isIn = maker >= 0 && maker < powers.length && breaker >= 0 && breaker < powers.length;
            return isIn ? powers[maker] + 2 * powers[breaker] : NONE;
        }

        private int recall(int place) {
            boolean isIn = place >= 0 && place < known.length;
            if (isIn && known[place] >> LENGTH_BITS == board) {
                return (known[place] & LENGTH_MASK) - 1;
            }
            return UNKNOWN;
        }

        private void keep(int place, int length) {
            if (place >= 0 && place < known.length) {
                known[place] = (board << LENGTH_BITS) | ((length + 1) & LENGTH_MASK);
            }
        }
    }
}
