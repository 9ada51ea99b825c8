import java.lang.reflect.InvocationTargetException;
import java.lang.reflect.Method;
import java.util.ArrayList;
import java.util.Arrays;
import java.util.Collections;
import java.util.List;
import java.util.Random;

/**
 * Long runs of calls on a HexArbiter and on the Reference, whose answers must be the same.
 * The numbers come from a fixed seed, so that each run of the test is the same one.
 */
public final class RandomRunsTest {
    // each method with the kinds of its arguments; a method named more often is called more often
    private static final String[] CALLS = {
        "size w9", "size w9", "cell c", "neighbour c i6", "group c w3", "group c w3", "groups s", "largest s",
        "isBridge c c", "bridges s b", "bridge s i8 w4", "bridge s i8 w4", "chain c w3", "chain c w3",
        "chains s", "isSafe s", "answer c", "threats s", "threat s i3", "forced", "forced", "distance s",
        "through s c", "useful s", "shared", "potential s c w100", "current s w100", "resistance s w100",
        "balance w100", "solved", "goodMoves", "bestMove", "filled x", "fillings s x m100", "idle x",
        "moveAt i9", "move c", "move c", "move c", "move c", "move c", "move c", "swap", "swap", "giveUp",
        "put c t", "put c t", "put c t", "setTurn s", "turnOver", "playForced m81", "forcedWinner",
        "forcedRow", "fullness", "writeRow r", "writeCell c", "outputByte i4", "undo", "undo",
        "saveSnapshot w1", "restoreSnapshot w1", "loadError", "loadStatement", "append l", "load"};
    // a game that goes on for all the calls of an object, so that moves and actions pile up to their limits
    private static final String[] GAME = {
        "move f", "move f", "move f", "move f", "move f", "move f", "move f", "move f", "move f", "move f",
        "move f", "move f", "move f", "move f", "move f", "put o n", "put o n", "put o n", "put o n", "put o n",
        "put o n", "playForced m81", "playForced m81", "setTurn s", "turnOver", "undo", "swap", "move c",
        "forced", "forcedRow", "forcedWinner", "moveAt i200", "size w9"};
    private static final int CALLS_OF_AN_OBJECT = 512;
    private static final int CALLS_OF_A_TEXT = 15;

    private final Check check = new Check();
    private final Random random;
    private final StringBuilder trace = new StringBuilder();
    private HexArbiter arbiter;
    private Reference reference;

    private RandomRunsTest(long seed) {
        random = new Random(seed);
    }

    public static void main(String[] args) throws Exception {
        long seed = args.length > 0 ? Long.parseLong(args[0]) : 1;
        int runs = args.length > 1 ? Integer.parseInt(args[1]) : 250;
        RandomRunsTest test = new RandomRunsTest(seed);
        for (int run = 0; run < runs; run++) {
            test.run(run);
        }
        for (int run = 0; run < runs * 20; run++) {
            test.texts();
        }
        for (int run = 0; run < runs; run += 5) {
            test.game();
        }
        test.check.end("RandomRunsTest");
    }

    private void run(int number) throws Exception {
        arbiter = new HexArbiter();
        reference = new Reference();
        trace.setLength(0);
        int mode = number % 4;
        if (number % 10 != 0) {
            enter(description(mode));
        }
        for (int done = 0; done < 120; done++) {
            if (random.nextInt(40) == 0) {
                enter(random.nextInt(3) == 0 ? spoilt(description(mode)) : description(mode));
            }
            call(CALLS[random.nextInt(CALLS.length)]);
        }
        all();
    }

    /** Every prediction for every cell and side, on the board that the run has ended with. */
    private void all() throws Exception {
        int cells = arbiter.size(0) * arbiter.size(0);
        for (int cell = 0; cell < cells; cell++) {
            compare("answer", cell);
            for (int what = 0; what <= 3; what++) {
                compare("group", cell, what);
                compare("chain", cell, what);
            }
            for (int place = 0; place <= 6; place++) {
                compare("neighbour", cell, place);
            }
            for (int other = 0; other < cells; other++) {
                compare("isBridge", cell, other);
            }
        }
        for (int side = 0; side <= 1; side++) {
            for (int index = 0; index <= arbiter.bridges(side, false); index++) {
                for (int what = 0; what <= 4; what++) {
                    compare("bridge", side, index, what);
                }
            }
            for (int index = 0; index <= arbiter.threats(side); index++) {
                compare("threat", side, index);
            }
            for (int cell = random.nextInt(9); cell < cells; cell += 9) {
                compare("through", side, cell);
                compare("potential", side, cell, 1 + random.nextInt(6));
            }
        }
        for (int what = 0; what <= 9; what++) {
            compare("size", what);
        }
    }

    /** One text alone, sound or spoilt, on new objects. */
    private void texts() throws Exception {
        arbiter = new HexArbiter();
        reference = new Reference();
        trace.setLength(0);
        String text = description(random.nextInt(4));
        enter(random.nextInt(5) == 0 ? text : spoilt(text));
        compare("size", 4);
        compare("size", 5);
        check.same("board " + trace, boardOf(reference), Check.board(arbiter));
    }

    /** One object for as many calls as are promised, most of them moves and what makes room for them. */
    private void game() throws Exception {
        arbiter = new HexArbiter();
        reference = new Reference();
        trace.setLength(0);
        enter("board " + (3 + random.nextInt(7)) + (random.nextBoolean() ? " swap" : ""));
        for (int done = CALLS_OF_A_TEXT; done < CALLS_OF_AN_OBJECT; done++) {
            if (reference.size(6) == HexArbiter.NONE) {
                call(GAME[random.nextInt(GAME.length)]);
            } else {
                call(random.nextInt(20) == 0 ? "undo" : "put o n");
            }
        }
    }

    private static String boardOf(Reference reference) {
        StringBuilder text = new StringBuilder();
        int size = reference.size(0);
        for (int cell = 0; cell < size * size; cell++) {
            text.append(cell > 0 && cell % size == 0 ? "/" : "").append(".rb".charAt(reference.cell(cell) + 1));
        }
        return text.toString();
    }

    private void enter(String text) throws Exception {
        for (int from = 0; from < text.length(); ) {
            int to = Math.min(text.length(), from + 1 + random.nextInt(8));
            long bytes = 0;
            for (; from < to; from++) {
                bytes = bytes << 8 | text.charAt(from);
            }
            compare("append", bytes);
        }
        compare("load");
        compare("loadError");
        compare("loadStatement");
    }

    private String description(int mode) {
        int size = mode == 0 ? 2 + random.nextInt(2) : mode == 1 ? 3 + random.nextInt(2) : 2 + random.nextInt(8);
        StringBuilder text = new StringBuilder(gap()).append("board").append(gap()).append(size);
        if (random.nextInt(3) == 0) {
            text.append(gap()).append("swap");
        }
        List<String> cells = new ArrayList<>();
        for (int cell = 0; cell < size * size; cell++) {
            cells.add((char) ('a' + cell % size) + (random.nextInt(9) == 0 ? " " : "") + (1 + cell / size));
        }
        Collections.shuffle(cells, random);
        int most = Math.min(cells.size(), mode < 2 ? size * size - random.nextInt(8) : random.nextInt(60));
        int used = random.nextInt(6) == 0 ? 1 : 0;
        if (used == 1) {
            text.append(";move ").append(cells.get(0));
        }
        while (used < most && text.length() < 360) {
            String[] heads = {"red", "blue", "move", "turn"};
            String head = heads[random.nextInt(random.nextInt(3) == 0 ? 4 : 2)];
            text.append(gap()).append(';').append(gap()).append(head);
            if (head.equals("turn")) {
                text.append(' ').append(gap()).append(random.nextBoolean() ? "red" : "blue");
                continue;
            }
            int many = 1 + random.nextInt(head.equals("move") ? 4 : 8);
            for (int one = 0; one < many && (used < most || one == 0) && used < cells.size(); one++) {
                text.append(one == 0 || random.nextInt(3) == 0 ? " " : "").append(cells.get(used++));
            }
        }
        return text.append(gap()).toString();
    }

    private String gap() {
        return random.nextInt(8) == 0 ? "  ".substring(random.nextInt(2)) : "";
    }

    private String spoilt(String text) {
        StringBuilder wrong = new StringBuilder(text);
        int many = 1 + random.nextInt(2);
        String pieces = ";; abcdeijz0123459red blue move turn board swap A\t\n\u00e9,.-";
        for (int one = 0; one < many; one++) {
            int place = random.nextInt(wrong.length());
            char other = pieces.charAt(random.nextInt(pieces.length()));
            switch (random.nextInt(5)) {
                case 0 -> wrong.setCharAt(place, other);
                case 1 -> wrong.insert(place, other);
                case 2 -> wrong.setLength(place + 1);
                case 3 -> wrong.append(";").append(text.substring(text.length() / 2));
                default -> wrong.deleteCharAt(place);
            }
            if (wrong.length() == 0) {
                wrong.append(other);
            }
        }
        return wrong.toString();
    }

    private void call(String form) throws Exception {
        String[] parts = form.split(" ");
        Object[] arguments = new Object[parts.length - 1];
        for (int index = 0; index < arguments.length; index++) {
            arguments[index] = argument(parts[index + 1]);
        }
        compare(parts[0], arguments);
    }

    private Object argument(String kind) {
        int bound = kind.length() > 1 ? Integer.parseInt(kind.substring(1)) : 0;
        boolean odd = random.nextInt(30) == 0;
        int size = reference.size(0);
        switch (kind.charAt(0)) {
            case 'b': return random.nextBoolean();
            case 'f': return cellFrom(random.nextInt(size * size), true);
            case 'o': return cellFrom(random.nextInt(size * size), false);
            case 'n': return HexArbiter.NONE;
            case 'c': return odd ? oddNumber(size * size) : random.nextInt(size * size);
            case 'r': return odd ? oddNumber(size) : random.nextInt(size);
            case 's': return odd ? oddNumber(2) : random.nextInt(2);
            case 't': return odd ? oddNumber(2) : random.nextInt(3) - 1;
            case 'w': return odd ? oddNumber(bound + 1) : random.nextInt(bound + 1);
            case 'm': return odd ? oddNumber(bound + 1) : random.nextInt(bound + 1);
            case 'i': return odd ? oddNumber(bound) : random.nextInt(bound);
            case 'x': return odd ? -1 - random.nextInt(5) : random.nextInt() >>> 1;
            default: return random.nextLong() & (random.nextBoolean() ? 0xff00ff00ffffL : 0x7f7f00L);
        }
    }

    /** The first cell from this one on that is free, or that is not; this one itself if there is none. */
    private int cellFrom(int start, boolean free) {
        int cells = reference.size(0) * reference.size(0);
        for (int step = 0; step < cells; step++) {
            int cell = (start + step) % cells;
            if ((reference.cell(cell) == HexArbiter.NONE) == free) {
                return cell;
            }
        }
        return start;
    }

    private int oddNumber(int bound) {
        int[] odd = {-1, -2, bound, bound + 1, Integer.MIN_VALUE, Integer.MAX_VALUE};
        return odd[random.nextInt(odd.length)];
    }

    private void compare(String name, Object... arguments) throws Exception {
        trace.append(name).append(Arrays.toString(arguments)).append(' ');
        Object want = outcome(reference, name, arguments);
        Object got = outcome(arbiter, name, arguments);
        if (!want.equals(got)) {
            check.same("behind " + trace, want, got);
            throw new IllegalStateException("the answers differ");
        }
        check.same(name, want, got);
    }

    private static Object outcome(Object object, String name, Object[] arguments) throws Exception {
        for (Method method : object.getClass().getDeclaredMethods()) {
            if (method.getName().equals(name) && method.getParameterCount() == arguments.length
                    && !java.lang.reflect.Modifier.isPrivate(method.getModifiers())) {
                try {
                    return method.invoke(object, arguments);
                } catch (InvocationTargetException e) {
                    return "throws " + e.getCause().getClass().getName();
                }
            }
        }
        throw new IllegalStateException("there is no method " + name);
    }
}
