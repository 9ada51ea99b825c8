/**
 * An arbiter of a game on a board of hexagons in which each side joins its two edges.
 * What each public method does is told in ../shared/DOC.md, a promise for each.
 */
public final class HexArbiter {
    public static final int NONE = -1;
    public static final int FULL = -2;
    public static final int WRONG = -3;
    public static final int RED = 0, BLUE = 1;

    private static final int LEAST_SIZE = 2;
    private static final int MOST_SIZE = 9;
    private static final int CELLS = 81;
    private static final int NEIGHBOURS = 6;
    private static final int MOVES = 200;
    private static final int INPUT_BYTES = 400;
    private static final int OUTPUT_BYTES = 9;
    private static final int ACTIONS = 8;
    private static final int MOST_FORCED = 81;
    private static final int LAST_CELLS = 6;
    private static final int MOST_SWEEPS = 100;
    private static final int MOST_FILLINGS = 100;
    private static final int MOST_X = 2147483647;
    private static final int BOTH_EDGES = 3;

    private final Grid grid;
    private final Links links;
    private final Position position;
    private final Position before;
    private final History history;
    private final Position firstSnapshot;
    private final Position secondSnapshot;
    private final Bytes input;
    private final Bytes output;
    private final Reader reader;
    private final BridgeList bridgeList;
    private final Paths redPaths;
    private final Paths bluePaths;
    private final Flow flow;
    private final Endgame endgame;
    private final Filling filling;

    public HexArbiter() {
        grid = new Grid();
        links = new Links(grid);
        position = new Position();
        before = new Position();
        history = new History();
        firstSnapshot = new Position();
        secondSnapshot = new Position();
        input = new Bytes(INPUT_BYTES);
        output = new Bytes(OUTPUT_BYTES);
        reader = new Reader(input, grid, links);
        bridgeList = new BridgeList(grid);
        redPaths = new Paths(grid);
        bluePaths = new Paths(grid);
        flow = new Flow(grid);
        endgame = new Endgame(grid, links);
        filling = new Filling(grid, links);
        grid.fit(LEAST_SIZE);
        position.begin(LEAST_SIZE);
    }

    // ---- the description ----

    public int append(long bytes) {
        int many = 0;
        for (int shift = 56; shift >= 0; shift -= 8) {
            if (((bytes >>> shift) & 255L) != 0L) {
                many++;
            }
        }
        if (input.length + many > INPUT_BYTES) {
            return FULL;
        }
        for (int shift = 56; shift >= 0; shift -= 8) {
            int one = (int) ((bytes >>> shift) & 255L);
            if (one != 0) {
                input.add(one);
            }
        }
        return input.length;
    }

    public int load() {
        boolean good = reader.read();
        input.clear();
        if (!good) {
            // the reader has fitted the grid to the board of the text
            grid.fit(position.size);
            return -100 - reader.place;
        }
        position.copy(reader.draft);
        grid.fit(position.size);
        history.clear();
        return position.size;
    }

    public int loadError() {
        return reader.error;
    }

    public int loadStatement() {
        return reader.error == 0 ? NONE : reader.statement;
    }

    // ---- the board ----

    public int size(int what) throws IllegalArgumentException {
        switch (what) {
            case 0: return position.size;
            case 1: return position.count(RED);
            case 2: return position.count(BLUE);
            case 3: return position.count(NONE);
            case 4: return position.moveCount;
            case 5: return position.turn;
            case 6: return winner();
            case 7: return canSwap() ? 1 : 0;
            case 8: return position.givenUp;
            case 9: return history.count;
            default: throw new IllegalArgumentException("what is out of range");
        }
    }

    public int cell(int cell) throws IndexOutOfBoundsException {
        requireCell(cell);
        return position.stone(cell);
    }

    public int neighbour(int cell, int index) throws IndexOutOfBoundsException {
        requireCell(cell);
        return grid.near(cell, index);
    }

    public int group(int cell, int what) throws IndexOutOfBoundsException, IllegalArgumentException {
        requireCell(cell);
        requireRange(what, 0, 3);
        int side = position.stone(cell);
        if (side == NONE) {
            return NONE;
        }
        links.gather(position.stones, side);
        return what == 2 ? liberties(links.top(cell)) : links.number(cell, what);
    }

    public int groups(int side) throws IllegalArgumentException {
        requireSide(side);
        links.gather(position.stones, side);
        return links.parts();
    }

    public int largest(int side) throws IllegalArgumentException {
        requireSide(side);
        links.gather(position.stones, side);
        return links.largestPart();
    }

    // ---- bridges and chains ----

    public boolean isBridge(int one, int other) throws IndexOutOfBoundsException {
        requireCell(one);
        requireCell(other);
        int side = position.stone(one);
        if (side == NONE) {
            return false;
        }
        bridgeList.find(position.stones, side);
        return bridgeList.has(Math.min(one, other), Math.max(one, other));
    }

    public int bridges(int side, boolean counting) throws IllegalArgumentException {
        requireSide(side);
        bridgeList.find(position.stones, side);
        return counting ? bridgeList.counting() : bridgeList.length;
    }

    public int bridge(int side, int index, int what) throws IllegalArgumentException {
        requireSide(side);
        requireRange(what, 0, 4);
        bridgeList.find(position.stones, side);
        return bridgeList.number(index, what);
    }

    public int chain(int cell, int what) throws IndexOutOfBoundsException, IllegalArgumentException {
        requireCell(cell);
        requireRange(what, 0, 3);
        int side = position.stone(cell);
        if (side == NONE) {
            return NONE;
        }
        gatherChains(side);
        return what == 2 ? bridgeList.countingIn(links, links.top(cell)) : links.number(cell, what);
    }

    public int chains(int side) throws IllegalArgumentException {
        requireSide(side);
        gatherChains(side);
        return links.parts();
    }

    public boolean isSafe(int side) throws IllegalArgumentException {
        requireSide(side);
        gatherChains(side);
        return links.joined();
    }

    public int answer(int cell) throws IndexOutOfBoundsException {
        requireCell(cell);
        bridgeList.find(position.stones, otherSide(position.turn));
        return bridgeList.otherCarrier(cell);
    }

    // ---- threats and forced moves ----

    public int threats(int side) throws IllegalArgumentException {
        requireSide(side);
        return countThreats(side);
    }

    public int threat(int side, int index) throws IllegalArgumentException {
        requireSide(side);
        return findThreat(side, index);
    }

    public int forced() {
        return forcedCell();
    }

    // ---- distances ----

    public int distance(int side) throws IllegalArgumentException {
        requireSide(side);
        return pathsOf(side).least();
    }

    public int through(int side, int cell) throws IllegalArgumentException, IndexOutOfBoundsException {
        requireSide(side);
        requireCell(cell);
        return pathsOf(side).cost(cell);
    }

    public int useful(int side) throws IllegalArgumentException {
        requireSide(side);
        Paths paths = pathsOf(side);
        int least = paths.least();
        int many = 0;
        for (int cell = 0; cell < grid.cells; cell++) {
            if (least != NONE && position.stone(cell) == NONE && paths.cost(cell) == least) {
                many++;
            }
        }
        return many;
    }

    public int shared() {
        Paths red = pathsOf(RED);
        Paths blue = pathsOf(BLUE);
        int found = NONE;
        int least = 0;
        for (int cell = 0; cell < grid.cells; cell++) {
            int ofRed = red.cost(cell);
            int ofBlue = blue.cost(cell);
            boolean inBoth = position.stone(cell) == NONE && ofRed != NONE && ofBlue != NONE;
            if (inBoth && (found == NONE || ofRed + ofBlue < least)) {
                found = cell;
                least = ofRed + ofBlue;
            }
        }
        return found;
    }

    // ---- current ----

    public int potential(int side, int cell, int sweeps)
            throws IllegalArgumentException, IndexOutOfBoundsException {
        requireSide(side);
        requireRange(sweeps, 0, MOST_SWEEPS);
        requireCell(cell);
        flow.run(position.stones, side, sweeps);
        return flow.level(cell);
    }

    public int current(int side, int sweeps) throws IllegalArgumentException {
        requireSide(side);
        requireRange(sweeps, 0, MOST_SWEEPS);
        return flow.run(position.stones, side, sweeps);
    }

    public float resistance(int side, int sweeps) throws IllegalArgumentException {
        requireSide(side);
        requireRange(sweeps, 0, MOST_SWEEPS);
        int amount = flow.run(position.stones, side, sweeps);
        return amount == 0 ? 0.0f : 1000000.0f / (float) amount;
    }

    public double balance(int sweeps) throws IllegalArgumentException {
        requireRange(sweeps, 0, MOST_SWEEPS);
        int red = flow.run(position.stones, RED, sweeps);
        int both = red + flow.run(position.stones, BLUE, sweeps);
        return both == 0 ? 0.5 : (double) red / (double) both;
    }

    // ---- solving and filling ----

    public int solved() {
        int winner = winner();
        if (winner != NONE || position.count(NONE) > LAST_CELLS) {
            return winner;
        }
        endgame.begin(position.stones);
        return endgame.winner(position.turn);
    }

    public int goodMoves() {
        if (winner() != NONE) {
            return 0;
        }
        if (position.count(NONE) > LAST_CELLS) {
            return NONE;
        }
        endgame.begin(position.stones);
        return endgame.countGood(position.turn);
    }

    public int bestMove() {
        if (winner() != NONE || position.count(NONE) > LAST_CELLS) {
            return NONE;
        }
        endgame.begin(position.stones);
        return endgame.lowestGood(position.turn);
    }

    public int filled(int x) throws IllegalArgumentException {
        requireRange(x, 0, MOST_X);
        filling.begin(x);
        return filling.next(position.stones);
    }

    public int fillings(int side, int x, int many) throws IllegalArgumentException {
        requireSide(side);
        requireRange(x, 0, MOST_X);
        requireRange(many, 1, MOST_FILLINGS);
        filling.begin(x);
        int joined = 0;
        for (int done = 0; done < many; done++) {
            if (filling.next(position.stones) == side) {
                joined++;
            }
        }
        return joined;
    }

    public int idle(int x) throws IllegalArgumentException {
        requireRange(x, 0, MOST_X);
        filling.begin(x);
        int winner = filling.next(position.stones);
        return filling.countIdle(position.stones, winner);
    }

    // ---- moves and other actions ----

    public int moveAt(int index) {
        return position.moved(index);
    }

    public int move(int cell) throws IndexOutOfBoundsException {
        requireCell(cell);
        if (position.stone(cell) != NONE || winner() != NONE) {
            return WRONG;
        }
        if (position.moveCount >= MOVES) {
            return FULL;
        }
        history.remember(position);
        position.play(cell);
        return winner();
    }

    public int swap() {
        if (!canSwap()) {
            return WRONG;
        }
        history.remember(position);
        int old = position.moved(0);
        position.place(old, NONE);
        int made = grid.mirror(old);
        position.play(made);
        return made;
    }

    public int giveUp() {
        if (winner() != NONE) {
            return WRONG;
        }
        history.remember(position);
        position.givenUp = position.turn;
        return winner();
    }

    public int put(int cell, int side) throws IndexOutOfBoundsException, IllegalArgumentException {
        requireCell(cell);
        requireRange(side, NONE, BLUE);
        history.remember(position);
        int old = position.stone(cell);
        position.place(cell, side);
        return old;
    }

    public int setTurn(int side) throws IllegalArgumentException {
        requireSide(side);
        history.remember(position);
        int old = position.turn;
        position.turn = side;
        return old;
    }

    public int turnOver() {
        history.remember(position);
        position.mirror(grid);
        return position.size;
    }

    public int playForced(int most) throws IllegalArgumentException {
        requireRange(most, 1, MOST_FORCED);
        history.remember(position);
        return makeForced(most);
    }

    public int forcedWinner() {
        before.copy(position);
        makeForced(MOST_FORCED);
        int winner = winner();
        position.copy(before);
        return winner;
    }

    public int forcedRow() {
        before.copy(position);
        int made = makeForced(MOST_FORCED);
        position.copy(before);
        return made;
    }

    // ---- output ----

    public double fullness() {
        int cells = grid.cells;
        int stones = cells - position.count(NONE);
        return cells == 0 ? 0.0 : (double) stones / (double) cells;
    }

    public int writeRow(int row) throws IndexOutOfBoundsException {
        if (row < 0 || row >= position.size) {
            throw new IndexOutOfBoundsException("there is no such row");
        }
        output.clear();
        for (int column = 0; column < position.size; column++) {
            int stone = position.stone(grid.cellAt(row, column));
            output.add(stone == RED ? 'r' : stone == BLUE ? 'b' : '.');
        }
        return output.length;
    }

    public int writeCell(int cell) throws IndexOutOfBoundsException {
        requireCell(cell);
        output.clear();
        output.add('a' + grid.column(cell));
        output.add('1' + grid.row(cell));
        return output.length;
    }

    public int outputByte(int index) {
        return output.get(index);
    }

    // ---- taking back and snapshots ----

    public int undo() {
        return history.back(position) ? history.count : NONE;
    }

    public int saveSnapshot(int slot) throws IllegalArgumentException {
        requireRange(slot, 0, 1);
        Position snapshot = slot == 0 ? firstSnapshot : secondSnapshot;
        snapshot.copy(position);
        return position.count(NONE);
    }

    public int restoreSnapshot(int slot) throws IllegalArgumentException {
        requireRange(slot, 0, 1);
        Position snapshot = slot == 0 ? firstSnapshot : secondSnapshot;
        if (!snapshot.isBegun()) {
            return NONE;
        }
        position.copy(snapshot);
        grid.fit(position.size);
        history.clear();
        return position.count(NONE);
    }

    // ---- what several of the methods use ----

    private void requireCell(int cell) {
        if (cell < 0 || cell >= grid.cells) {
            throw new IndexOutOfBoundsException("there is no such cell");
        }
    }

    private static void requireSide(int side) {
        if (side != RED && side != BLUE) {
            throw new IllegalArgumentException("side is out of range");
        }
    }

    private static void requireRange(int value, int least, int most) {
        if (value < least || value > most) {
            throw new IllegalArgumentException("a value is out of range");
        }
    }

    private static int otherSide(int side) {
        return side == RED ? BLUE : RED;
    }

    /** An entry of a row, NONE outside of it: so no index is used untested. */
    private static int at(int[] row, int index) {
        return index < 0 || index >= row.length ? NONE : row[index];
    }

    /** Sets an entry of a row; nothing outside of it. */
    private static void set(int[] row, int index, int value) {
        if (index >= 0 && index < row.length) {
            row[index] = value;
        }
    }

    private int winner() {
        return position.winner(links);
    }

    private boolean canSwap() {
        boolean oneStone = grid.cells - position.count(NONE) == 1;
        return position.swapping && position.moveCount == 1 && oneStone
                && position.stone(position.moved(0)) == otherSide(position.turn)
                && winner() == NONE;
    }

    /** Counts the free cells beside the group with this lowest cell; the groups have been gathered. */
    private int liberties(int top) {
        int many = 0;
        for (int cell = 0; cell < grid.cells; cell++) {
            if (position.stone(cell) == NONE && links.isBeside(cell, top)) {
                many++;
            }
        }
        return many;
    }

    private void gatherChains(int side) {
        links.gather(position.stones, side);
        bridgeList.find(position.stones, side);
        bridgeList.linkCounting(links);
    }

    private int countThreats(int side) {
        links.gather(position.stones, side);
        if (links.joined()) {
            return 0;
        }
        int many = 0;
        for (int cell = 0; cell < grid.cells; cell++) {
            if (position.stone(cell) == NONE && links.joinsBy(cell)) {
                many++;
            }
        }
        return many;
    }

    private int findThreat(int side, int index) {
        links.gather(position.stones, side);
        if (links.joined()) {
            return NONE;
        }
        int many = 0;
        for (int cell = 0; cell < grid.cells; cell++) {
            if (position.stone(cell) == NONE && links.joinsBy(cell)) {
                if (many == index) {
                    return cell;
                }
                many++;
            }
        }
        return NONE;
    }

    private int forcedCell() {
        if (winner() != NONE) {
            return NONE;
        }
        int own = findThreat(position.turn, 0);
        if (own != NONE) {
            return own;
        }
        int other = otherSide(position.turn);
        int many = countThreats(other);
        if (many > 0) {
            return many == 1 ? findThreat(other, 0) : NONE;
        }
        return answerToLatestMove(other);
    }

    private int answerToLatestMove(int other) {
        int latest = position.moved(position.moveCount - 1);
        if (latest == NONE || position.stone(latest) != other) {
            return NONE;
        }
        // the bridge is whole only without the stone that goes into it
        position.place(latest, NONE);
        bridgeList.find(position.stones, position.turn);
        int found = bridgeList.otherCarrier(latest);
        position.place(latest, other);
        return found;
    }

    private int makeForced(int most) {
        int made = 0;
        while (made < most && position.moveCount < MOVES) {
            int cell = forcedCell();
            if (cell == NONE) {
                return made;
            }
            position.play(cell);
            made++;
        }
        return made;
    }

    private Paths pathsOf(int side) {
        Paths paths = side == RED ? redPaths : bluePaths;
        paths.find(position.stones, side);
        return paths;
    }

    /** The cells of a board of some size and how they lie. */
    private static final class Grid {
        // the six steps in the order of the cells that they lead to
        private static final int[] STEP_ROWS = {-1, -1, 0, 0, 1, 1};
        private static final int[] STEP_COLUMNS = {0, 1, -1, 1, -1, 0};

        private final int[] neighbours;
        private final int[] redEdges;
        private final int[] blueEdges;
        private int size;
        private int cells;

        Grid() {
            neighbours = new int[CELLS * NEIGHBOURS];
            redEdges = new int[CELLS];
            blueEdges = new int[CELLS];
        }

        void fit(int newSize) {
            if (newSize == size) {
                return;
            }
            size = newSize;
            cells = newSize * newSize;
            for (int cell = 0; cell < cells; cell++) {
                set(redEdges, cell, edgesOfLine(row(cell)));
                set(blueEdges, cell, edgesOfLine(column(cell)));
                listNeighbours(cell);
            }
        }

        private int edgesOfLine(int line) {
            return line == 0 ? 1 : line == size - 1 ? 2 : 0;
        }

        private void listNeighbours(int cell) {
            int many = 0;
            for (int step = 0; step < NEIGHBOURS; step++) {
                int found = cellAt(row(cell) + at(STEP_ROWS, step), column(cell) + at(STEP_COLUMNS, step));
                if (found != NONE) {
                    set(neighbours, cell * NEIGHBOURS + many, found);
                    many++;
                }
            }
            for (int index = many; index < NEIGHBOURS; index++) {
                set(neighbours, cell * NEIGHBOURS + index, NONE);
            }
        }

        int row(int cell) {
            return size == 0 ? 0 : cell / size;
        }

        int column(int cell) {
            return size == 0 ? 0 : cell % size;
        }

        int cellAt(int row, int column) {
            boolean outside = row < 0 || row >= size || column < 0 || column >= size;
            return outside ? NONE : size * row + column;
        }

        /** A neighbour of a cell by its place; NONE if there is no such place. */
        int near(int cell, int index) {
            int place = cell * NEIGHBOURS + index;
            boolean outside = index < 0 || index >= NEIGHBOURS || place < 0 || place >= neighbours.length;
            return outside ? NONE : neighbours[place];
        }

        /** The edges of a side at which a cell is: 1 for the edge 0 and 2 for the edge 1, added. */
        int edges(int cell, int side) {
            int[] row = side == RED ? redEdges : blueEdges;
            return cell < 0 || cell >= row.length ? 0 : row[cell];
        }

        int mirror(int cell) {
            return cellAt(column(cell), row(cell));
        }
    }

    /** The stones with the moves, the turn and who has given up: all that an action can change. */
    private static final class Position {
        private final int[] stones;
        private final int[] moves;
        private int size;
        private boolean swapping;
        private int moveCount;
        private int turn;
        private int givenUp;

        Position() {
            stones = new int[CELLS];
            moves = new int[MOVES];
        }

        void begin(int newSize) {
            size = newSize;
            swapping = false;
            moveCount = 0;
            turn = RED;
            givenUp = NONE;
            for (int cell = 0; cell < CELLS; cell++) {
                set(stones, cell, NONE);
            }
        }

        boolean isBegun() {
            return size != 0;
        }

        void copy(Position other) {
            size = other.size;
            swapping = other.swapping;
            moveCount = other.moveCount;
            turn = other.turn;
            givenUp = other.givenUp;
            System.arraycopy(other.stones, 0, stones, 0, CELLS);
            System.arraycopy(other.moves, 0, moves, 0, MOVES);
        }

        int stone(int cell) {
            return at(stones, cell);
        }

        void place(int cell, int side) {
            set(stones, cell, side);
        }

        /** Puts a stone of the side whose turn it is, as a move. */
        void play(int cell) {
            set(stones, cell, turn);
            set(moves, moveCount, cell);
            moveCount++;
            turn = otherSide(turn);
        }

        int moved(int index) {
            return index < 0 || index >= moveCount ? NONE : at(moves, index);
        }

        /** Counts the cells of the board that are as told: RED, BLUE or NONE. */
        int count(int what) {
            int many = 0;
            for (int cell = 0; cell < size * size; cell++) {
                if (stone(cell) == what) {
                    many++;
                }
            }
            return many;
        }

        int winner(Links links) {
            for (int side = RED; side <= BLUE; side++) {
                links.gather(stones, side);
                if (links.joined()) {
                    return side;
                }
            }
            return givenUp == NONE ? NONE : otherSide(givenUp);
        }

        void mirror(Grid grid) {
            for (int cell = 0; cell < size * size; cell++) {
                int twin = grid.mirror(cell);
                if (twin >= cell) {
                    int moving = stone(cell);
                    set(stones, cell, mirrored(stone(twin)));
                    set(stones, twin, mirrored(moving));
                }
            }
            for (int index = 0; index < moveCount; index++) {
                set(moves, index, grid.mirror(moved(index)));
            }
            turn = otherSide(turn);
            givenUp = mirrored(givenUp);
        }

        private static int mirrored(int side) {
            return side == NONE ? NONE : otherSide(side);
        }
    }

    /** The latest positions that undo() can bring back, in a ring. */
    private static final class History {
        private final Position[] past;
        private int first;
        private int count;

        History() {
            past = new Position[ACTIONS];
            for (int index = 0; index < ACTIONS; index++) {
                past[index] = new Position();
            }
        }

        void clear() {
            count = 0;
        }

        void remember(Position now) {
            if (count == ACTIONS) {
                first = (first + 1) % ACTIONS;
                count--;
            }
            Position kept = latest(count);
            if (kept != null) {
                kept.copy(now);
                count++;
            }
        }

        boolean back(Position now) {
            Position kept = count == 0 ? null : latest(count - 1);
            if (kept == null) {
                return false;
            }
            now.copy(kept);
            count--;
            return true;
        }

        private Position latest(int index) {
            int place = (first + index) % ACTIONS;
            return place < 0 || place >= past.length ? null : past[place];
        }
    }

    /** A row of bytes that grows up to a limit. */
    private static final class Bytes {
        private final int[] bytes;
        private int length;

        Bytes(int most) {
            bytes = new int[Math.max(0, most)];
        }

        void clear() {
            length = 0;
        }

        void add(int one) {
            if (length >= 0 && length < bytes.length) {
                bytes[length] = one;
                length++;
            }
        }

        int get(int index) {
            boolean outside = index < 0 || index >= length || index >= bytes.length;
            return outside ? NONE : bytes[index];
        }
    }

    /** The stones of a side, put together to groups, or to chains; a part is named by its lowest cell. */
    private static final class Links {
        private final Grid grid;
        private final int[] tops;
        // both are kept at the lowest cell of a part
        private final int[] reached;
        private final int[] counts;
        private final int[] waiting;
        private int side;

        Links(Grid grid) {
            this.grid = grid;
            tops = new int[CELLS];
            reached = new int[CELLS];
            counts = new int[CELLS];
            waiting = new int[CELLS];
        }

        /** Makes the groups of a side the parts. */
        void gather(int[] stones, int ofSide) {
            side = ofSide;
            for (int cell = 0; cell < CELLS; cell++) {
                set(tops, cell, NONE);
            }
            for (int cell = 0; cell < grid.cells; cell++) {
                if (at(stones, cell) == side && at(tops, cell) == NONE) {
                    flood(stones, cell);
                }
            }
        }

        private void flood(int[] stones, int top) {
            int edges = 0;
            int many = 1;
            set(tops, top, top);
            set(waiting, 0, top);
            for (int next = 0; next < many && next < CELLS; next++) {
                int cell = at(waiting, next);
                edges |= grid.edges(cell, side);
                for (int index = 0; index < NEIGHBOURS; index++) {
                    int near = grid.near(cell, index);
                    if (near != NONE && at(stones, near) == side && at(tops, near) == NONE) {
                        set(tops, near, top);
                        set(waiting, many, near);
                        many++;
                    }
                }
            }
            set(reached, top, edges);
            set(counts, top, many);
        }

        /** Makes the parts of two stones one. */
        void link(int one, int other) {
            int low = Math.min(top(one), top(other));
            int high = Math.max(top(one), top(other));
            if (low == high) {
                return;
            }
            for (int cell = 0; cell < grid.cells; cell++) {
                if (at(tops, cell) == high) {
                    set(tops, cell, low);
                }
            }
            set(counts, low, at(counts, low) + at(counts, high));
            set(reached, low, at(reached, low) | at(reached, high));
        }

        /** Lets the part of a stone reach an edge: 1 for the edge 0, 2 for the edge 1. */
        void reach(int cell, int edge) {
            int top = top(cell);
            set(reached, top, at(reached, top) | edge);
        }

        /** The lowest cell of the part of a stone; NONE without a stone of the side. */
        int top(int cell) {
            return at(tops, cell);
        }

        /** Of the part of a stone: 0 its lowest cell, 1 its stones, 3 its edges. */
        int number(int cell, int what) {
            int top = top(cell);
            return what == 0 ? top : at(what == 1 ? counts : reached, top);
        }

        int parts() {
            int many = 0;
            for (int cell = 0; cell < grid.cells; cell++) {
                if (top(cell) == cell) {
                    many++;
                }
            }
            return many;
        }

        int largestPart() {
            int found = NONE;
            int most = 0;
            for (int cell = 0; cell < grid.cells; cell++) {
                if (top(cell) == cell && at(counts, cell) > most) {
                    found = cell;
                    most = at(counts, cell);
                }
            }
            return found;
        }

        boolean joined() {
            for (int cell = 0; cell < grid.cells; cell++) {
                if (top(cell) == cell && at(reached, cell) == BOTH_EDGES) {
                    return true;
                }
            }
            return false;
        }

        /** Whether a stone of the side, put into this cell, would make a part with both edges. */
        boolean joinsBy(int cell) {
            int edges = grid.edges(cell, side);
            for (int index = 0; index < NEIGHBOURS; index++) {
                int top = top(grid.near(cell, index));
                if (top != NONE) {
                    edges |= at(reached, top);
                }
            }
            return edges == BOTH_EDGES;
        }

        boolean isBeside(int cell, int top) {
            for (int index = 0; index < NEIGHBOURS; index++) {
                if (top != NONE && top(grid.near(cell, index)) == top) {
                    return true;
                }
            }
            return false;
        }
    }

    /** The bridges of a side in their order. */
    private static final class BridgeList {
        private static final int MOST_BRIDGES = 5 * CELLS;
        private static final int TO_EDGE_0 = -10;
        // from a cell to the higher cells that it can form a bridge with, and to the two carriers
        private static final int[] FAR_ROWS = {1, 1, 2};
        private static final int[] FAR_COLUMNS = {-2, 1, -1};
        private static final int[] LOW_ROWS = {0, 0, 1};
        private static final int[] LOW_COLUMNS = {-1, 1, -1};
        private static final int[] HIGH_ROWS = {1, 1, 1};
        private static final int[] HIGH_COLUMNS = {-1, 0, 0};

        private final Grid grid;
        private final int[] lowerCells;
        private final int[] otherCells;
        private final int[] lowCarriers;
        private final int[] highCarriers;
        private final int[] counted;
        private final int[] taken;
        private int length;

        BridgeList(Grid grid) {
            this.grid = grid;
            lowerCells = new int[MOST_BRIDGES];
            otherCells = new int[MOST_BRIDGES];
            lowCarriers = new int[MOST_BRIDGES];
            highCarriers = new int[MOST_BRIDGES];
            counted = new int[MOST_BRIDGES];
            taken = new int[CELLS];
        }

        void find(int[] stones, int side) {
            length = 0;
            for (int cell = 0; cell < CELLS; cell++) {
                set(taken, cell, 0);
            }
            for (int cell = 0; cell < grid.cells; cell++) {
                if (at(stones, cell) == side) {
                    for (int step = 0; step < FAR_ROWS.length; step++) {
                        addToCell(stones, cell, step);
                    }
                    addToEdge(stones, cell, 0);
                    addToEdge(stones, cell, 1);
                }
            }
        }

        private void addToCell(int[] stones, int cell, int step) {
            int row = grid.row(cell);
            int column = grid.column(cell);
            int other = grid.cellAt(row + at(FAR_ROWS, step), column + at(FAR_COLUMNS, step));
            if (other == NONE || at(stones, other) != at(stones, cell)) {
                return;
            }
            int low = grid.cellAt(row + at(LOW_ROWS, step), column + at(LOW_COLUMNS, step));
            int high = grid.cellAt(row + at(HIGH_ROWS, step), column + at(HIGH_COLUMNS, step));
            addIfFree(stones, cell, other, low, high);
        }

        private void addToEdge(int[] stones, int cell, int edge) {
            int side = at(stones, cell);
            int bit = 1 << edge;
            if ((grid.edges(cell, side) & bit) != 0) {
                return;
            }
            int low = NONE;
            int high = NONE;
            for (int index = 0; index < NEIGHBOURS; index++) {
                int near = grid.near(cell, index);
                if (near != NONE && (grid.edges(near, side) & bit) != 0) {
                    low = low == NONE ? near : low;
                    high = near;
                }
            }
            // a cell beside an edge has one or two neighbours there, never more
            if (low != high) {
                addIfFree(stones, cell, TO_EDGE_0 - edge, low, high);
            }
        }

        private void addIfFree(int[] stones, int cell, int other, int low, int high) {
            boolean carried = low != NONE && high != NONE && at(stones, low) == NONE && at(stones, high) == NONE;
            if (!carried || length >= MOST_BRIDGES) {
                return;
            }
            boolean counts = at(taken, low) == 0 && at(taken, high) == 0;
            set(lowerCells, length, cell);
            set(otherCells, length, other);
            set(lowCarriers, length, low);
            set(highCarriers, length, high);
            set(counted, length, counts ? 1 : 0);
            length++;
            if (counts) {
                set(taken, low, 1);
                set(taken, high, 1);
            }
        }

        boolean has(int lower, int other) {
            for (int index = 0; index < length; index++) {
                if (at(lowerCells, index) == lower && at(otherCells, index) == other) {
                    return true;
                }
            }
            return false;
        }

        int counting() {
            int many = 0;
            for (int index = 0; index < length; index++) {
                many += at(counted, index);
            }
            return many;
        }

        int number(int index, int what) {
            if (index < 0 || index >= length) {
                return NONE;
            }
            switch (what) {
                case 0: return at(lowerCells, index);
                case 1: return at(otherCells, index);
                case 2: return at(lowCarriers, index);
                case 3: return at(highCarriers, index);
                default: return at(counted, index);
            }
        }

        /** The other carrier of the bridge that counts and has this carrier; NONE without one. */
        int otherCarrier(int carrier) {
            for (int index = 0; index < length; index++) {
                if (at(counted, index) == 1) {
                    int low = at(lowCarriers, index);
                    int high = at(highCarriers, index);
                    if (low == carrier || high == carrier) {
                        return low == carrier ? high : low;
                    }
                }
            }
            return NONE;
        }

        void linkCounting(Links links) {
            for (int index = 0; index < length; index++) {
                if (at(counted, index) == 1) {
                    int lower = at(lowerCells, index);
                    int other = at(otherCells, index);
                    if (other >= 0) {
                        links.link(lower, other);
                    } else {
                        links.reach(lower, 1 << (TO_EDGE_0 - other));
                    }
                }
            }
        }

        int countingIn(Links links, int top) {
            int many = 0;
            for (int index = 0; index < length; index++) {
                if (at(counted, index) == 1 && links.top(at(lowerCells, index)) == top) {
                    many++;
                }
            }
            return many;
        }
    }

    /** The least costs of the paths of a side. */
    private static final class Paths {
        private final Grid grid;
        private final int[] prices;
        // the least cost from an edge to a cell, with the cell; NONE if it can't be reached
        private final int[] fromEdge0;
        private final int[] fromEdge1;

        Paths(Grid grid) {
            this.grid = grid;
            prices = new int[CELLS];
            fromEdge0 = new int[CELLS];
            fromEdge1 = new int[CELLS];
        }

        void find(int[] stones, int side) {
            for (int cell = 0; cell < grid.cells; cell++) {
                int stone = at(stones, cell);
                set(prices, cell, stone == NONE ? 1 : stone == side ? 0 : NONE);
            }
            spread(fromEdge0, side, 1);
            spread(fromEdge1, side, 2);
        }

        private void spread(int[] costs, int side, int edge) {
            for (int cell = 0; cell < grid.cells; cell++) {
                boolean start = (grid.edges(cell, side) & edge) != 0;
                set(costs, cell, start ? at(prices, cell) : NONE);
            }
            // a least path has no cell twice, so it is found after as many rounds as there are cells
            boolean changed = true;
            for (int round = 0; round < CELLS && changed; round++) {
                changed = false;
                for (int cell = 0; cell < grid.cells; cell++) {
                    changed |= lower(costs, cell);
                }
            }
        }

        /** Lowers the cost of a cell to what its neighbours allow; tells whether that changed it. */
        private boolean lower(int[] costs, int cell) {
            int price = at(prices, cell);
            int least = at(costs, cell);
            if (price == NONE) {
                return false;
            }
            for (int index = 0; index < NEIGHBOURS; index++) {
                int near = at(costs, grid.near(cell, index));
                if (near != NONE && (least == NONE || near + price < least)) {
                    least = near + price;
                }
            }
            boolean changed = least != at(costs, cell);
            set(costs, cell, least);
            return changed;
        }

        /** The least cost of a path with this cell; NONE without one. */
        int cost(int cell) {
            int one = at(fromEdge0, cell);
            int other = at(fromEdge1, cell);
            return one == NONE || other == NONE ? NONE : one + other - at(prices, cell);
        }

        int least() {
            int found = NONE;
            for (int cell = 0; cell < grid.cells; cell++) {
                int cost = cost(cell);
                if (cost != NONE && (found == NONE || cost < found)) {
                    found = cost;
                }
            }
            return found;
        }
    }

    /** The current of a side. */
    private static final class Flow {
        private static final int START = 500000;
        private static final int SOURCE = 1000000;
        private static final int STONE_WEIGHT = 3;

        private final Grid grid;
        private final int[] weights;
        private final int[] levels;
        private int side;

        Flow(Grid grid) {
            this.grid = grid;
            weights = new int[CELLS];
            levels = new int[CELLS];
        }

        /** Sweeps so many times from the start on and returns the current. */
        int run(int[] stones, int ofSide, int sweeps) {
            side = ofSide;
            for (int cell = 0; cell < grid.cells; cell++) {
                int stone = at(stones, cell);
                int weight = stone == NONE ? 1 : stone == side ? STONE_WEIGHT : 0;
                set(weights, cell, weight);
                set(levels, cell, weight == 0 ? NONE : START);
            }
            // behind a sweep that changes nothing no other one does
            boolean changed = true;
            for (int done = 0; done < sweeps && changed; done++) {
                changed = sweep();
            }
            return amount();
        }

        private boolean sweep() {
            boolean changed = false;
            for (int cell = 0; cell < grid.cells; cell++) {
                if (at(weights, cell) > 0) {
                    int next = nextLevel(cell);
                    changed |= next != at(levels, cell);
                    set(levels, cell, next);
                }
            }
            return changed;
        }

        private int nextLevel(int cell) {
            int edges = grid.edges(cell, side);
            int total = edges == 0 ? 0 : 1;
            int sum = edges == 2 ? SOURCE : 0;
            for (int index = 0; index < NEIGHBOURS; index++) {
                int near = grid.near(cell, index);
                if (near != NONE && at(weights, near) > 0) {
                    total += at(weights, near);
                    sum += at(weights, near) * at(levels, near);
                }
            }
            return total == 0 ? at(levels, cell) : sum / total;
        }

        private int amount() {
            int sum = 0;
            for (int cell = 0; cell < grid.cells; cell++) {
                if (grid.edges(cell, side) == 1 && at(weights, cell) > 0) {
                    sum += at(weights, cell) * at(levels, cell);
                }
            }
            return sum;
        }

        /** The potential of a cell; NONE if it has a stone of the other side. */
        int level(int cell) {
            return at(levels, cell);
        }
    }

    /**
     * The last moves, solved. They are played until the board is full: stones behind the one that
     * joins change nothing, so it counts alone which of the free cells red has got at the end.
     */
    private static final class Endgame {
        private final Grid grid;
        private final Links links;
        private final int[] stones;
        private final int[] open;
        private final int[] owners;
        private int count;

        Endgame(Grid grid, Links links) {
            this.grid = grid;
            this.links = links;
            stones = new int[CELLS];
            open = new int[LAST_CELLS];
            owners = new int[1 << LAST_CELLS];
        }

        void begin(int[] start) {
            count = 0;
            for (int cell = 0; cell < grid.cells; cell++) {
                set(stones, cell, at(start, cell));
                if (at(start, cell) == NONE && count < LAST_CELLS) {
                    set(open, count, cell);
                    count++;
                }
            }
            for (int red = 0; red < owners.length; red++) {
                owners[red] = NONE;
            }
        }

        int winner(int turn) {
            return best(all(), 0, turn, 0);
        }

        int countGood(int turn) {
            int many = 0;
            for (int index = 0; index < count; index++) {
                if (isGood(index, turn)) {
                    many++;
                }
            }
            return many;
        }

        int lowestGood(int turn) {
            for (int index = 0; index < count; index++) {
                if (isGood(index, turn)) {
                    return at(open, index);
                }
            }
            return NONE;
        }

        private boolean isGood(int index, int turn) {
            int bit = 1 << index;
            return best(all() ^ bit, turn == RED ? bit : 0, otherSide(turn), 1) == turn;
        }

        private int all() {
            return (1 << count) - 1;
        }

        /** Who joins by the best play; left and red have a bit for each cell that is open or red's. */
        private int best(int left, int red, int turn, int depth) {
            if (left == 0 || depth >= LAST_CELLS) {
                return owner(red);
            }
            for (int index = 0; index < count; index++) {
                int bit = 1 << index;
                if ((left & bit) != 0) {
                    int next = turn == RED ? red | bit : red;
                    if (best(left ^ bit, next, otherSide(turn), depth + 1) == turn) {
                        return turn;
                    }
                }
            }
            return otherSide(turn);
        }

        /** Who has joined on the full board if red has got these cells. */
        private int owner(int red) {
            if (at(owners, red) == NONE) {
                for (int index = 0; index < count; index++) {
                    set(stones, at(open, index), (red & (1 << index)) != 0 ? RED : BLUE);
                }
                links.gather(stones, RED);
                set(owners, red, links.joined() ? RED : BLUE);
            }
            return at(owners, red);
        }
    }

    /** Boards filled by chance. */
    private static final class Filling {
        private static final int FACTOR = 1103515245;
        private static final int SUMMAND = 12345;

        private final Grid grid;
        private final Links links;
        private final int[] stones;
        private int x;

        Filling(Grid grid, Links links) {
            this.grid = grid;
            this.links = links;
            stones = new int[CELLS];
        }

        void begin(int first) {
            x = first;
        }

        /** Fills the board once and tells who has joined. */
        int next(int[] start) {
            for (int cell = 0; cell < grid.cells; cell++) {
                int stone = at(start, cell);
                set(stones, cell, stone == NONE ? nextStone() : stone);
            }
            links.gather(stones, RED);
            return links.joined() ? RED : BLUE;
        }

        private int nextStone() {
            // what the wrap-around of int cuts off is beyond the modulus
            x = (FACTOR * x + SUMMAND) & MOST_X;
            return x / 65536 % 2 == 0 ? RED : BLUE;
        }

        /** Counts the free cells whose stone, turned, leaves the winner of the latest filling. */
        int countIdle(int[] start, int winner) {
            int loser = otherSide(winner);
            links.gather(stones, loser);
            int many = 0;
            for (int cell = 0; cell < grid.cells; cell++) {
                boolean turning = at(stones, cell) == winner && links.joinsBy(cell);
                if (at(start, cell) == NONE && !turning) {
                    many++;
                }
            }
            return many;
        }
    }

    /** Reads a description. */
    private static final class Reader {
        private static final int END = 0, WORD = 1, NUMBER = 2, SEMICOLON = 3, OTHER = 4;
        private static final int MISPLACED = 1, OUT_OF_RANGE = 2, NOT_FREE = 3, GAME_OVER = 4;
        private static final int LARGE_NUMBER = 1000;

        private final Bytes text;
        private final Grid grid;
        private final Links links;
        private final Position draft;
        // what stands at the place that has been read up to
        private int kind;
        private int start;
        private int end;
        private int number;
        private int error;
        private int place;
        private int statement;

        Reader(Bytes text, Grid grid, Links links) {
            this.text = text;
            this.grid = grid;
            this.links = links;
            draft = new Position();
        }

        /** Reads the text into the draft; tells whether it has no error. */
        boolean read() {
            error = 0;
            statement = 0;
            end = 0;
            advance();
            readBoard();
            for (int done = 0; done < INPUT_BYTES && error == 0 && kind == SEMICOLON; done++) {
                statement++;
                advance();
                readStatement();
            }
            if (error == 0 && kind != END) {
                fail(MISPLACED, start);
            }
            return error == 0;
        }

        private void readBoard() {
            if (!isWord("board")) {
                fail(MISPLACED, start);
                return;
            }
            advance();
            if (kind != NUMBER) {
                fail(MISPLACED, start);
                return;
            }
            if (number < LEAST_SIZE || number > MOST_SIZE) {
                fail(OUT_OF_RANGE, start);
                return;
            }
            draft.begin(number);
            grid.fit(number);
            advance();
            if (isWord("swap")) {
                draft.swapping = true;
                advance();
            }
        }

        private void readStatement() {
            boolean moving = isWord("move");
            boolean turning = isWord("turn");
            int side = sideWord();
            if (!moving && !turning && side == NONE) {
                fail(MISPLACED, start);
                return;
            }
            advance();
            if (turning) {
                readTurn();
                return;
            }
            // each cell but the last one takes a free cell away
            for (int done = 0; done <= CELLS && error == 0 && (done == 0 || kind == WORD); done++) {
                readCell(moving, side);
            }
        }

        private void readTurn() {
            int side = sideWord();
            if (side == NONE) {
                fail(MISPLACED, start);
                return;
            }
            draft.turn = side;
            advance();
        }

        private void readCell(boolean moving, int side) {
            int letterPlace = start;
            boolean over = moving && draft.winner(links) != NONE;
            int column = readColumn(over);
            int row = error == 0 ? readRow() : NONE;
            if (error != 0) {
                return;
            }
            int cell = grid.cellAt(row, column);
            if (draft.stone(cell) != NONE) {
                fail(NOT_FREE, letterPlace);
                return;
            }
            if (moving) {
                draft.play(cell);
            } else {
                draft.place(cell, side);
            }
        }

        private int readColumn(boolean over) {
            if (kind != WORD || end - start != 1) {
                fail(MISPLACED, start);
                return NONE;
            }
            int column = text.get(start) - 'a';
            if (column >= draft.size) {
                fail(OUT_OF_RANGE, start);
                return NONE;
            }
            if (over) {
                fail(GAME_OVER, start);
                return NONE;
            }
            advance();
            return column;
        }

        private int readRow() {
            if (kind != NUMBER) {
                fail(MISPLACED, start);
                return NONE;
            }
            if (number < 1 || number > draft.size) {
                fail(OUT_OF_RANGE, start);
                return NONE;
            }
            int row = number - 1;
            advance();
            return row;
        }

        private void fail(int what, int where) {
            error = what;
            place = where;
        }

        private int sideWord() {
            return isWord("red") ? RED : isWord("blue") ? BLUE : NONE;
        }

        private boolean isWord(String word) {
            if (kind != WORD || end - start != word.length()) {
                return false;
            }
            for (int index = 0; index < word.length(); index++) {
                if (text.get(start + index) != word.charAt(index)) {
                    return false;
                }
            }
            return true;
        }

        /** Goes on to the next word, number or byte. */
        private void advance() {
            start = runEnd(end, ' ', ' ');
            int first = text.get(start);
            if (first >= 'a' && first <= 'z') {
                kind = WORD;
                end = runEnd(start, 'a', 'z');
            } else if (first >= '0' && first <= '9') {
                kind = NUMBER;
                end = runEnd(start, '0', '9');
                number = readNumber();
            } else {
                kind = first == NONE ? END : first == ';' ? SEMICOLON : OTHER;
                end = first == NONE ? start : start + 1;
            }
        }

        private int runEnd(int from, int least, int most) {
            int next = from;
            while (next < text.length && text.get(next) >= least && text.get(next) <= most) {
                next++;
            }
            return next;
        }

        private int readNumber() {
            int value = 0;
            for (int index = start; index < end; index++) {
                value = Math.min(LARGE_NUMBER, 10 * value + text.get(index) - '0');
            }
            return value;
        }
    }
}
