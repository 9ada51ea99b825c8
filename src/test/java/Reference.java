import java.util.ArrayList;
import java.util.Arrays;
import java.util.List;
import java.util.TreeSet;
import java.util.regex.Matcher;
import java.util.regex.Pattern;

/**
 * The document once more, written slowly and straight from its words with all of the Java library,
 * so that HexArbiter can be compared with it. It shares no code with HexArbiter.
 */
final class Reference {
    static final int NONE = -1, FULL = -2, WRONG = -3;

    static final class State {
        int size;
        boolean swap;
        int[][] stones;
        List<Integer> moves = new ArrayList<>();
        int turn;
        int givenUp = NONE;

        State(int size) {
            this.size = size;
            stones = new int[size][size];
            for (int[] row : stones) {
                Arrays.fill(row, NONE);
            }
        }

        State copy() {
            State copy = new State(size);
            copy.swap = swap;
            for (int row = 0; row < size; row++) {
                copy.stones[row] = stones[row].clone();
            }
            copy.moves.addAll(moves);
            copy.turn = turn;
            copy.givenUp = givenUp;
            return copy;
        }

        int get(int cell) {
            return stones[cell / size][cell % size];
        }

        void set(int cell, int side) {
            stones[cell / size][cell % size] = side;
        }

        int cells() {
            return size * size;
        }

        List<Integer> free() {
            List<Integer> free = new ArrayList<>();
            for (int cell = 0; cell < cells(); cell++) {
                if (get(cell) == NONE) {
                    free.add(cell);
                }
            }
            return free;
        }

        TreeSet<Integer> neighbours(int cell) {
            TreeSet<Integer> found = new TreeSet<>();
            int r = cell / size;
            int c = cell % size;
            int[][] six = {{r, c - 1}, {r, c + 1}, {r - 1, c}, {r + 1, c}, {r - 1, c + 1}, {r + 1, c - 1}};
            for (int[] one : six) {
                if (one[0] >= 0 && one[0] < size && one[1] >= 0 && one[1] < size) {
                    found.add(size * one[0] + one[1]);
                }
            }
            return found;
        }

        boolean isAt(int cell, int side, int edge) {
            int line = side == 0 ? cell / size : cell % size;
            return line == (edge == 0 ? 0 : size - 1);
        }

        List<TreeSet<Integer>> groups(int side) {
            return components(side, List.of());
        }

        /** The parts that the stones of a side make, held together by neighbours and these pairs. */
        List<TreeSet<Integer>> components(int side, List<int[]> pairs) {
            List<TreeSet<Integer>> parts = new ArrayList<>();
            for (int cell = 0; cell < cells(); cell++) {
                if (get(cell) == side) {
                    parts.add(new TreeSet<>(List.of(cell)));
                }
            }
            boolean changed = true;
            while (changed) {
                changed = false;
                search:
                for (int a = 0; a < parts.size(); a++) {
                    for (int b = a + 1; b < parts.size(); b++) {
                        if (touch(parts.get(a), parts.get(b), pairs)) {
                            parts.get(a).addAll(parts.remove(b));
                            changed = true;
                            break search;
                        }
                    }
                }
            }
            return parts;
        }

        private boolean touch(TreeSet<Integer> one, TreeSet<Integer> other, List<int[]> pairs) {
            for (int cell : one) {
                for (int near : neighbours(cell)) {
                    if (other.contains(near)) {
                        return true;
                    }
                }
            }
            for (int[] pair : pairs) {
                if (one.contains(pair[0]) && other.contains(pair[1])
                        || one.contains(pair[1]) && other.contains(pair[0])) {
                    return true;
                }
            }
            return false;
        }

        int edges(TreeSet<Integer> part, int side) {
            int edges = 0;
            for (int cell : part) {
                edges |= (isAt(cell, side, 0) ? 1 : 0) | (isAt(cell, side, 1) ? 2 : 0);
            }
            return edges;
        }

        /** Whether a side has joined: by walking on from its edge 0. */
        boolean joined(int side) {
            TreeSet<Integer> seen = new TreeSet<>();
            ArrayList<Integer> todo = new ArrayList<>();
            for (int cell = 0; cell < cells(); cell++) {
                if (get(cell) == side && isAt(cell, side, 0)) {
                    todo.add(cell);
                }
            }
            while (!todo.isEmpty()) {
                int cell = todo.remove(todo.size() - 1);
                if (seen.add(cell)) {
                    if (isAt(cell, side, 1)) {
                        return true;
                    }
                    for (int near : neighbours(cell)) {
                        if (get(near) == side) {
                            todo.add(near);
                        }
                    }
                }
            }
            return false;
        }

        int winner() {
            if (joined(0)) {
                return 0;
            }
            if (joined(1)) {
                return 1;
            }
            return givenUp == NONE ? NONE : 1 - givenUp;
        }

        /** Bridges as rows: lower cell, other cell or -10 or -11, both carriers, whether it counts. */
        List<int[]> bridges(int side) {
            List<int[]> found = new ArrayList<>();
            for (int cell = 0; cell < cells(); cell++) {
                if (get(cell) != side) {
                    continue;
                }
                for (int other = cell + 1; other < cells(); other++) {
                    if (get(other) == side && !neighbours(cell).contains(other)) {
                        TreeSet<Integer> both = neighbours(cell);
                        both.retainAll(neighbours(other));
                        addBridge(found, cell, other, both);
                    }
                }
                for (int edge = 0; edge < 2; edge++) {
                    if (!isAt(cell, side, edge)) {
                        TreeSet<Integer> there = new TreeSet<>();
                        for (int near : neighbours(cell)) {
                            if (isAt(near, side, edge)) {
                                there.add(near);
                            }
                        }
                        addBridge(found, cell, -10 - edge, there);
                    }
                }
            }
            return found;
        }

        private void addBridge(List<int[]> found, int cell, int other, TreeSet<Integer> carriers) {
            if (carriers.size() != 2 || get(carriers.first()) != NONE || get(carriers.last()) != NONE) {
                return;
            }
            int counts = 1;
            for (int[] ahead : found) {
                if (ahead[4] == 1 && (carriers.contains(ahead[2]) || carriers.contains(ahead[3]))) {
                    counts = 0;
                }
            }
            found.add(new int[] {cell, other, carriers.first(), carriers.last(), counts});
        }

        List<int[]> counting(int side) {
            List<int[]> found = bridges(side);
            found.removeIf(one -> one[4] == 0);
            return found;
        }

        List<TreeSet<Integer>> chains(int side) {
            return components(side, counting(side));
        }

        int chainEdges(TreeSet<Integer> chain, int side) {
            int edges = edges(chain, side);
            for (int[] one : counting(side)) {
                if (chain.contains(one[0]) && one[1] < 0) {
                    edges |= one[1] == -10 ? 1 : 2;
                }
            }
            return edges;
        }

        int answer(int cell, int side) {
            for (int[] one : counting(side)) {
                if (one[2] == cell) {
                    return one[3];
                }
                if (one[3] == cell) {
                    return one[2];
                }
            }
            return NONE;
        }

        List<Integer> threats(int side) {
            List<Integer> found = new ArrayList<>();
            if (!joined(side)) {
                for (int cell : free()) {
                    State after = copy();
                    after.set(cell, side);
                    if (after.joined(side)) {
                        found.add(cell);
                    }
                }
            }
            return found;
        }

        int forced() {
            if (winner() != NONE) {
                return NONE;
            }
            List<Integer> own = threats(turn);
            if (!own.isEmpty()) {
                return own.get(0);
            }
            List<Integer> others = threats(1 - turn);
            if (!others.isEmpty()) {
                return others.size() == 1 ? others.get(0) : NONE;
            }
            if (moves.isEmpty() || get(moves.get(moves.size() - 1)) != 1 - turn) {
                return NONE;
            }
            int latest = moves.get(moves.size() - 1);
            State earlier = copy();
            earlier.set(latest, NONE);
            return earlier.answer(latest, turn);
        }

        void play(int cell) {
            set(cell, turn);
            moves.add(cell);
            turn = 1 - turn;
        }

        int playForced(int most) {
            int made = 0;
            while (made < most && winner() == NONE && forced() != NONE && moves.size() < 200) {
                play(forced());
                made++;
            }
            return made;
        }

        /** The least cost from each cell to each other one, both ends counted (a large number: no way). */
        int[][] costs(int side) {
            int n = cells();
            int[][] between = new int[n][n];
            for (int[] row : between) {
                Arrays.fill(row, 100000);
            }
            for (int a = 0; a < n; a++) {
                if (get(a) == 1 - side) {
                    continue;
                }
                between[a][a] = price(a);
                for (int b : neighbours(a)) {
                    if (get(b) != 1 - side) {
                        between[a][b] = price(a) + price(b);
                    }
                }
            }
            for (int m = 0; m < n; m++) {
                for (int a = 0; a < n; a++) {
                    for (int b = 0; b < n; b++) {
                        between[a][b] = Math.min(between[a][b], between[a][m] + between[m][b] - price(m));
                    }
                }
            }
            return between;
        }

        private int price(int cell) {
            return get(cell) == NONE ? 1 : 0;
        }

        int[] through(int side) {
            int[][] between = costs(side);
            int[] found = new int[cells()];
            for (int cell = 0; cell < cells(); cell++) {
                int one = 100000;
                int other = 100000;
                for (int end = 0; end < cells(); end++) {
                    one = isAt(end, side, 0) ? Math.min(one, between[end][cell]) : one;
                    other = isAt(end, side, 1) ? Math.min(other, between[cell][end]) : other;
                }
                int sum = one + other - price(cell);
                found[cell] = sum >= 50000 ? NONE : sum;
            }
            return found;
        }

        int distance(int side) {
            return Arrays.stream(through(side)).filter(cost -> cost != NONE).min().orElse(NONE);
        }

        int useful(int side) {
            int[] through = through(side);
            int least = distance(side);
            return (int) free().stream().filter(cell -> least != NONE && through[cell] == least).count();
        }

        int shared() {
            int[] red = through(0);
            int[] blue = through(1);
            int found = NONE;
            for (int cell : free()) {
                if (red[cell] != NONE && blue[cell] != NONE
                        && (found == NONE || red[cell] + blue[cell] < red[found] + blue[found])) {
                    found = cell;
                }
            }
            return found;
        }

        long weight(int cell, int side) {
            return get(cell) == NONE ? 1 : get(cell) == side ? 3 : 0;
        }

        long[] potentials(int side, int sweeps) {
            long[] found = new long[cells()];
            for (int cell = 0; cell < cells(); cell++) {
                found[cell] = weight(cell, side) == 0 ? NONE : 500000;
            }
            for (int sweep = 0; sweep < sweeps; sweep++) {
                for (int cell = 0; cell < cells(); cell++) {
                    if (weight(cell, side) == 0) {
                        continue;
                    }
                    long sum = 0;
                    long weights = 0;
                    for (int near : neighbours(cell)) {
                        if (weight(near, side) > 0) {
                            sum += weight(near, side) * found[near];
                            weights += weight(near, side);
                        }
                    }
                    if (isAt(cell, side, 0)) {
                        weights++;
                    }
                    if (isAt(cell, side, 1)) {
                        weights++;
                        sum += 1000000;
                    }
                    if (weights > 0) {
                        found[cell] = sum / weights;
                    }
                }
            }
            return found;
        }

        long current(int side, int sweeps) {
            long[] potentials = potentials(side, sweeps);
            long sum = 0;
            for (int cell = 0; cell < cells(); cell++) {
                if (isAt(cell, side, 0)) {
                    sum += weight(cell, side) * Math.max(0, potentials[cell]);
                }
            }
            return sum;
        }

        int best() {
            if (joined(0) || joined(1)) {
                return joined(0) ? 0 : 1;
            }
            for (int cell : free()) {
                State after = copy();
                after.play(cell);
                if (after.best() == turn) {
                    return turn;
                }
            }
            return 1 - turn;
        }

        List<Integer> good() {
            List<Integer> found = new ArrayList<>();
            for (int cell : free()) {
                State after = copy();
                after.play(cell);
                if (after.best() == turn) {
                    found.add(cell);
                }
            }
            return found;
        }

        /** The filled board; x[0] goes on. */
        State fill(long[] x) {
            State full = copy();
            for (int cell : free()) {
                x[0] = (1103515245L * x[0] + 12345L) % 2147483648L;
                full.set(cell, x[0] / 65536 % 2 == 0 ? 0 : 1);
            }
            return full;
        }

        int idle(int x) {
            State full = fill(new long[] {x});
            int winner = full.joined(0) ? 0 : 1;
            int many = 0;
            for (int cell : free()) {
                State turned = full.copy();
                turned.set(cell, 1 - full.get(cell));
                if (turned.joined(winner)) {
                    many++;
                }
            }
            return many;
        }

        State turnedOver() {
            State twin = copy();
            for (int row = 0; row < size; row++) {
                for (int column = 0; column < size; column++) {
                    int stone = stones[column][row];
                    twin.stones[row][column] = stone == NONE ? NONE : 1 - stone;
                }
            }
            twin.moves.replaceAll(this::mirror);
            twin.turn = 1 - turn;
            twin.givenUp = givenUp == NONE ? NONE : 1 - givenUp;
            return twin;
        }

        int mirror(int cell) {
            return cell % size * size + cell / size;
        }

        boolean canSwap() {
            if (!swap || moves.size() != 1 || winner() != NONE || cells() - free().size() != 1) {
                return false;
            }
            return get(moves.get(0)) == 1 - turn;
        }
    }

    /** An error of a text. */
    private static final class Fault extends RuntimeException {
        private static final long serialVersionUID = 1L;
        final int kind;
        final int place;

        Fault(int kind, int place) {
            this.kind = kind;
            this.place = place;
        }
    }

    private State now = new State(2);
    private final ArrayList<State> past = new ArrayList<>();
    private final State[] snapshots = new State[2];
    private String input = "";
    private String output = "";
    private int loadError;
    private int loadStatement = NONE;

    private void side(int side) {
        range(side, 0, 1);
    }

    private static void range(int value, int least, int most) {
        if (value < least || value > most) {
            throw new IllegalArgumentException();
        }
    }

    private void inside(int cell) {
        if (cell < 0 || cell >= now.cells()) {
            throw new IndexOutOfBoundsException();
        }
    }

    private void act() {
        past.add(now.copy());
        if (past.size() > 8) {
            past.remove(0);
        }
    }

    int append(long bytes) {
        StringBuilder more = new StringBuilder();
        for (int shift = 56; shift >= 0; shift -= 8) {
            char one = (char) (bytes >> shift & 255);
            if (one != 0) {
                more.append(one);
            }
        }
        if (input.length() + more.length() > 400) {
            return FULL;
        }
        input += more;
        return input.length();
    }

    // ---- the description, by tokens ----

    private final List<String> tokens = new ArrayList<>();
    private final List<Integer> places = new ArrayList<>();
    private int next;

    private void split(String text) {
        tokens.clear();
        places.clear();
        next = 0;
        Matcher matcher = Pattern.compile("[a-z]+|[0-9]+|[^ ]", Pattern.DOTALL).matcher(text);
        while (matcher.find()) {
            tokens.add(matcher.group());
            places.add(matcher.start());
        }
        tokens.add("");
        places.add(text.length());
    }

    private String take(String form) {
        String token = tokens.get(next);
        if (!token.matches(form)) {
            throw new Fault(1, places.get(next));
        }
        next++;
        return token;
    }

    private int takeNumber(int least, int most) {
        String token = take("[0-9]+");
        java.math.BigInteger value = new java.math.BigInteger(token);
        boolean low = value.compareTo(java.math.BigInteger.valueOf(least)) < 0;
        if (low || value.compareTo(java.math.BigInteger.valueOf(most)) > 0) {
            throw new Fault(2, places.get(next - 1));
        }
        return value.intValue();
    }

    private void statement(State state) {
        String word = take("red|blue|turn|move");
        if (word.equals("turn")) {
            state.turn = take("red|blue").equals("red") ? 0 : 1;
            return;
        }
        do {
            int place = places.get(next);
            int column = take("[a-z]").charAt(0) - 'a';
            if (column >= state.size) {
                throw new Fault(2, place);
            }
            if (word.equals("move") && state.winner() != NONE) {
                throw new Fault(4, place);
            }
            int cell = (takeNumber(1, state.size) - 1) * state.size + column;
            if (state.get(cell) != NONE) {
                throw new Fault(3, place);
            }
            if (word.equals("move")) {
                state.play(cell);
            } else {
                state.set(cell, word.equals("red") ? 0 : 1);
            }
        } while (tokens.get(next).matches("[a-z]+"));
    }

    int load() {
        String text = input;
        input = "";
        split(text);
        loadError = 0;
        loadStatement = 0;
        try {
            take("board");
            State state = new State(takeNumber(2, 9));
            if (tokens.get(next).equals("swap")) {
                next++;
                state.swap = true;
            }
            while (!tokens.get(next).isEmpty()) {
                take(";");
                loadStatement++;
                statement(state);
            }
            now = state;
            past.clear();
            loadStatement = NONE;
            return now.size;
        } catch (Fault fault) {
            loadError = fault.kind;
            return -100 - fault.place;
        }
    }

    int loadError() {
        return loadError;
    }

    int loadStatement() {
        return loadStatement;
    }

    int size(int what) {
        range(what, 0, 9);
        int free = now.free().size();
        int red = 0;
        for (int cell = 0; cell < now.cells(); cell++) {
            red += now.get(cell) == 0 ? 1 : 0;
        }
        int[] numbers = {now.size, red, now.cells() - free - red, free, now.moves.size(), now.turn,
            now.winner(), now.canSwap() ? 1 : 0, now.givenUp, past.size()};
        return numbers[what];
    }

    int cell(int cell) {
        inside(cell);
        return now.get(cell);
    }

    int neighbour(int cell, int index) {
        inside(cell);
        List<Integer> all = new ArrayList<>(now.neighbours(cell));
        return index < 0 || index >= all.size() ? NONE : all.get(index);
    }

    int group(int cell, int what) {
        inside(cell);
        range(what, 0, 3);
        for (TreeSet<Integer> group : now.groups(now.get(cell) == 1 ? 1 : 0)) {
            if (group.contains(cell)) {
                TreeSet<Integer> free = new TreeSet<>();
                for (int one : group) {
                    free.addAll(now.neighbours(one));
                }
                free.removeIf(one -> now.get(one) != NONE);
                return new int[] {group.first(), group.size(), free.size(),
                    now.edges(group, now.get(cell))}[what];
            }
        }
        return NONE;
    }

    int groups(int side) {
        side(side);
        return now.groups(side).size();
    }

    int largest(int side) {
        side(side);
        int found = NONE;
        int most = 0;
        for (TreeSet<Integer> group : now.groups(side)) {
            if (group.size() > most || group.size() == most && group.first() < found) {
                found = group.first();
                most = group.size();
            }
        }
        return found;
    }

    boolean isBridge(int one, int other) {
        inside(one);
        inside(other);
        if (one == other || now.get(one) == NONE || now.get(one) != now.get(other)) {
            return false;
        }
        TreeSet<Integer> both = now.neighbours(one);
        if (both.contains(other)) {
            return false;
        }
        both.retainAll(now.neighbours(other));
        return both.size() == 2 && now.get(both.first()) == NONE && now.get(both.last()) == NONE;
    }

    int bridges(int side, boolean counting) {
        side(side);
        return counting ? now.counting(side).size() : now.bridges(side).size();
    }

    int bridge(int side, int index, int what) {
        side(side);
        range(what, 0, 4);
        List<int[]> all = now.bridges(side);
        return index < 0 || index >= all.size() ? NONE : all.get(index)[what];
    }

    int chain(int cell, int what) {
        inside(cell);
        range(what, 0, 3);
        int side = now.get(cell);
        if (side == NONE) {
            return NONE;
        }
        for (TreeSet<Integer> chain : now.chains(side)) {
            if (chain.contains(cell)) {
                int in = (int) now.counting(side).stream().filter(one -> chain.contains(one[0])).count();
                return new int[] {chain.first(), chain.size(), in, now.chainEdges(chain, side)}[what];
            }
        }
        throw new IllegalStateException("a stone is in no chain");
    }

    int chains(int side) {
        side(side);
        return now.chains(side).size();
    }

    boolean isSafe(int side) {
        side(side);
        return now.chains(side).stream().anyMatch(chain -> now.chainEdges(chain, side) == 3);
    }

    int answer(int cell) {
        inside(cell);
        return now.get(cell) != NONE ? NONE : now.answer(cell, 1 - now.turn);
    }

    int threats(int side) {
        side(side);
        return now.threats(side).size();
    }

    int threat(int side, int index) {
        side(side);
        List<Integer> all = now.threats(side);
        return index < 0 || index >= all.size() ? NONE : all.get(index);
    }

    int forced() {
        return now.forced();
    }

    int distance(int side) {
        side(side);
        return now.distance(side);
    }

    int through(int side, int cell) {
        side(side);
        inside(cell);
        return now.through(side)[cell];
    }

    int useful(int side) {
        side(side);
        return now.useful(side);
    }

    int shared() {
        return now.shared();
    }

    int potential(int side, int cell, int sweeps) {
        side(side);
        range(sweeps, 0, 100);
        inside(cell);
        return (int) now.potentials(side, sweeps)[cell];
    }

    int current(int side, int sweeps) {
        side(side);
        range(sweeps, 0, 100);
        return (int) now.current(side, sweeps);
    }

    float resistance(int side, int sweeps) {
        int current = current(side, sweeps);
        return current == 0 ? 0.0f : 1000000.0f / (float) current;
    }

    double balance(int sweeps) {
        double red = current(0, sweeps);
        double blue = current(1, sweeps);
        return red + blue == 0 ? 0.5 : red / (red + blue);
    }

    int solved() {
        if (now.winner() != NONE) {
            return now.winner();
        }
        return now.free().size() > 6 ? NONE : now.best();
    }

    int goodMoves() {
        if (now.winner() != NONE) {
            return 0;
        }
        return now.free().size() > 6 ? NONE : now.good().size();
    }

    int bestMove() {
        if (now.winner() != NONE || now.free().size() > 6 || now.good().isEmpty()) {
            return NONE;
        }
        return now.good().get(0);
    }

    int filled(int x) {
        range(x, 0, Integer.MAX_VALUE);
        return now.fill(new long[] {x}).joined(0) ? 0 : 1;
    }

    int fillings(int side, int x, int many) {
        side(side);
        range(x, 0, Integer.MAX_VALUE);
        range(many, 1, 100);
        long[] going = {x};
        int joined = 0;
        for (int one = 0; one < many; one++) {
            joined += now.fill(going).joined(side) ? 1 : 0;
        }
        return joined;
    }

    int idle(int x) {
        range(x, 0, Integer.MAX_VALUE);
        return now.idle(x);
    }

    int moveAt(int index) {
        return index < 0 || index >= now.moves.size() ? NONE : now.moves.get(index);
    }

    int move(int cell) {
        inside(cell);
        if (now.get(cell) != NONE || now.winner() != NONE) {
            return WRONG;
        }
        if (now.moves.size() >= 200) {
            return FULL;
        }
        act();
        now.play(cell);
        return now.winner();
    }

    int swap() {
        if (!now.canSwap()) {
            return WRONG;
        }
        act();
        int old = now.moves.get(0);
        now.set(old, NONE);
        now.play(now.mirror(old));
        return now.mirror(old);
    }

    int giveUp() {
        if (now.winner() != NONE) {
            return WRONG;
        }
        act();
        now.givenUp = now.turn;
        return 1 - now.turn;
    }

    int put(int cell, int side) {
        inside(cell);
        range(side, -1, 1);
        act();
        int old = now.get(cell);
        now.set(cell, side);
        return old;
    }

    int setTurn(int side) {
        side(side);
        act();
        int old = now.turn;
        now.turn = side;
        return old;
    }

    int turnOver() {
        act();
        now = now.turnedOver();
        return now.size;
    }

    int playForced(int most) {
        range(most, 1, 81);
        act();
        return now.playForced(most);
    }

    int forcedWinner() {
        State then = now.copy();
        then.playForced(81);
        return then.winner();
    }

    int forcedRow() {
        return now.copy().playForced(81);
    }

    double fullness() {
        return (double) (now.cells() - now.free().size()) / (double) now.cells();
    }

    int writeRow(int row) {
        if (row < 0 || row >= now.size) {
            throw new IndexOutOfBoundsException();
        }
        output = "";
        for (int stone : now.stones[row]) {
            output += ".rb".charAt(stone + 1);
        }
        return output.length();
    }

    int writeCell(int cell) {
        inside(cell);
        output = "abcdefghi".charAt(cell % now.size) + "" + (cell / now.size + 1);
        return output.length();
    }

    int outputByte(int index) {
        return index < 0 || index >= output.length() ? NONE : output.charAt(index);
    }

    int undo() {
        if (past.isEmpty()) {
            return NONE;
        }
        now = past.remove(past.size() - 1);
        return past.size();
    }

    int saveSnapshot(int slot) {
        range(slot, 0, 1);
        snapshots[slot] = now.copy();
        return now.free().size();
    }

    int restoreSnapshot(int slot) {
        range(slot, 0, 1);
        if (snapshots[slot] == null) {
            return NONE;
        }
        now = snapshots[slot].copy();
        past.clear();
        return now.free().size();
    }
}
