import java.util.function.Function;
import java.util.function.Supplier;

/**
 * "A method that returns WRONG or FULL or throws an exception changes nothing, except as load() says. If several
 * exceptions apply, the one that is named first is thrown; exceptions come before errors; of several errors the one
 * that is named first is returned. Predictions change nothing." Each call is made on one of two objects that are
 * alike; behind it all that they keep must be alike still, also what only later calls tell.
 */
public final class RefusedCallTest {
    private static final Check CHECK = new Check();
    private static final String ARGUMENT = "throws IllegalArgumentException";
    private static final String INDEX = "throws IndexOutOfBoundsException";

    public static void main(String[] args) {
        noSuchCell();
        outOfRange();
        severalExceptions();
        exceptionsBeforeErrors();
        wrong();
        full();
        none();
        predictions();
        CHECK.end("RefusedCallTest");
    }

    /** An object with all that it can keep; red can join in one move. */
    private static HexArbiter busy() {
        HexArbiter arbiter = Check.loaded("board 3 swap; red b1; blue c3; move c1 a1");
        arbiter.saveSnapshot(0);
        arbiter.put(4, 0);
        arbiter.setTurn(1);
        arbiter.saveSnapshot(1);
        arbiter.move(3);
        arbiter.writeRow(0);
        Check.load(arbiter, "board 2; red a1 a1");
        Check.append(arbiter, "board 2; move b");
        return arbiter;
    }

    /** The same, but red has given up. */
    private static HexArbiter over() {
        HexArbiter arbiter = busy();
        arbiter.giveUp();
        return arbiter;
    }

    /** Blue has moved into a bridge of red's, whose turn it is. */
    private static HexArbiter intruded() {
        HexArbiter arbiter = Check.loaded("board 3; red b2; turn blue");
        arbiter.saveSnapshot(1);
        arbiter.move(7);
        arbiter.put(0, 1);
        return arbiter;
    }

    private static void changesNothing(String name, Supplier<HexArbiter> maker, Object due,
            Function<HexArbiter, Object> call) {
        HexArbiter called = maker.get();
        CHECK.same(name, due, Check.outcome(() -> call.apply(called)));
        CHECK.same(name + " changes nothing", Check.everything(maker.get()), Check.everything(called));
    }

    private static void refused(String name, Object due, Function<HexArbiter, Object> call) {
        changesNothing(name, RefusedCallTest::busy, due, call);
    }

    private static void noSuchCell() {
        for (int cell : new int[] {9, 80, -1, Integer.MIN_VALUE, Integer.MAX_VALUE}) {
            refused("cell", INDEX, one -> one.cell(cell));
            refused("neighbour", INDEX, one -> one.neighbour(cell, 0));
            refused("group", INDEX, one -> one.group(cell, 0));
            refused("isBridge", INDEX, one -> one.isBridge(cell, 0));
            refused("isBridge", INDEX, one -> one.isBridge(0, cell));
            refused("chain", INDEX, one -> one.chain(cell, 0));
            refused("answer", INDEX, one -> one.answer(cell));
            refused("through", INDEX, one -> one.through(0, cell));
            refused("potential", INDEX, one -> one.potential(0, cell, 1));
            refused("move", INDEX, one -> one.move(cell));
            refused("put", INDEX, one -> one.put(cell, 0));
            refused("writeRow", INDEX, one -> one.writeRow(cell));
            refused("writeCell", INDEX, one -> one.writeCell(cell));
        }
        refused("writeRow(3)", INDEX, one -> one.writeRow(3));
    }

    private static void outOfRange() {
        for (int bad : new int[] {-1, 2, Integer.MIN_VALUE, Integer.MAX_VALUE}) {
            refused("groups", ARGUMENT, one -> one.groups(bad));
            refused("largest", ARGUMENT, one -> one.largest(bad));
            refused("bridges", ARGUMENT, one -> one.bridges(bad, true));
            refused("bridge", ARGUMENT, one -> one.bridge(bad, 0, 0));
            refused("chains", ARGUMENT, one -> one.chains(bad));
            refused("isSafe", ARGUMENT, one -> one.isSafe(bad));
            refused("threats", ARGUMENT, one -> one.threats(bad));
            refused("threat", ARGUMENT, one -> one.threat(bad, 0));
            refused("distance", ARGUMENT, one -> one.distance(bad));
            refused("through", ARGUMENT, one -> one.through(bad, 0));
            refused("useful", ARGUMENT, one -> one.useful(bad));
            refused("potential", ARGUMENT, one -> one.potential(bad, 0, 1));
            refused("current", ARGUMENT, one -> one.current(bad, 1));
            refused("resistance", ARGUMENT, one -> one.resistance(bad, 1));
            refused("fillings", ARGUMENT, one -> one.fillings(bad, 0, 1));
            refused("setTurn", ARGUMENT, one -> one.setTurn(bad));
            refused("saveSnapshot", ARGUMENT, one -> one.saveSnapshot(bad));
            refused("restoreSnapshot", ARGUMENT, one -> one.restoreSnapshot(bad));
        }
        for (int bad : new int[] {-2, 2, Integer.MIN_VALUE, Integer.MAX_VALUE}) {
            refused("put", ARGUMENT, one -> one.put(0, bad));
        }
        for (int bad : new int[] {-1, 101, Integer.MIN_VALUE, Integer.MAX_VALUE}) {
            refused("size", ARGUMENT, one -> one.size(bad));
            refused("group", ARGUMENT, one -> one.group(0, bad));
            refused("bridge", ARGUMENT, one -> one.bridge(0, 0, bad));
            refused("chain", ARGUMENT, one -> one.chain(0, bad));
            refused("potential", ARGUMENT, one -> one.potential(0, 0, bad));
            refused("current", ARGUMENT, one -> one.current(0, bad));
            refused("resistance", ARGUMENT, one -> one.resistance(0, bad));
            refused("balance", ARGUMENT, one -> one.balance(bad));
            refused("fillings", ARGUMENT, one -> one.fillings(0, 0, bad));
            refused("playForced", ARGUMENT, one -> one.playForced(bad));
        }
        for (int bad : new int[] {-1, Integer.MIN_VALUE}) {
            refused("filled", ARGUMENT, one -> one.filled(bad));
            refused("fillings", ARGUMENT, one -> one.fillings(0, bad, 1));
            refused("idle", ARGUMENT, one -> one.idle(bad));
        }
        refused("size(10)", ARGUMENT, one -> one.size(10));
        refused("fillings(0, 0, 0)", ARGUMENT, one -> one.fillings(0, 0, 0));
        refused("playForced(0)", ARGUMENT, one -> one.playForced(0));
        refused("playForced(82)", ARGUMENT, one -> one.playForced(82));
    }

    /** "If several exceptions apply, the one that is named first is thrown" */
    private static void severalExceptions() {
        refused("group", INDEX, one -> one.group(9, 4));
        refused("chain", INDEX, one -> one.chain(9, 4));
        refused("put", INDEX, one -> one.put(9, 2));
        refused("through", ARGUMENT, one -> one.through(2, 9));
        refused("potential, no side", ARGUMENT, one -> one.potential(2, 9, 0));
        refused("potential, too many sweeps", ARGUMENT, one -> one.potential(0, 9, 101));
    }

    /** "exceptions come before errors" */
    private static void exceptionsBeforeErrors() {
        changesNothing("move", RefusedCallTest::over, INDEX, one -> one.move(9));
        changesNothing("restoreSnapshot", HexArbiter::new, ARGUMENT, one -> one.restoreSnapshot(2));
        changesNothing("playForced", RefusedCallTest::over, ARGUMENT, one -> one.playForced(0));
        refused("bridge", ARGUMENT, one -> one.bridge(2, 99, 0));
        refused("bridge", ARGUMENT, one -> one.bridge(0, 99, 5));
        refused("threat", ARGUMENT, one -> one.threat(2, 99));
        refused("neighbour", INDEX, one -> one.neighbour(9, 99));
        refused("group of a free cell", ARGUMENT, one -> one.group(8 - 1, 4));
        refused("chain of a free cell", ARGUMENT, one -> one.chain(8 - 1, 4));
    }

    private static void wrong() {
        refused("move on a stone of red", -3, one -> one.move(1));
        refused("move on a stone of blue", -3, one -> one.move(0));
        refused("swap", -3, HexArbiter::swap);
        changesNothing("move, given up", RefusedCallTest::over, -3, one -> one.move(7));
        changesNothing("move on a stone, given up", RefusedCallTest::over, -3, one -> one.move(0));
        changesNothing("giveUp, given up", RefusedCallTest::over, -3, HexArbiter::giveUp);
        changesNothing("swap, given up", RefusedCallTest::over, -3, HexArbiter::swap);
        Supplier<HexArbiter> joined = () -> Check.loaded("board 2 swap; red a1; move a2");
        changesNothing("move, joined", joined, -3, one -> one.move(1));
        changesNothing("giveUp, joined", joined, -3, HexArbiter::giveUp);
        changesNothing("swap, joined", joined, -3, HexArbiter::swap);
    }

    private static void full() {
        Supplier<HexArbiter> input = () -> {
            HexArbiter arbiter = busy();
            Check.append(arbiter, "2" + " ".repeat(380));
            return arbiter;
        };
        CHECK.same("396 bytes", 396, input.get().append(0L));
        changesNothing("append of 5", input, -2, one -> one.append(0x61_6161_6161L));
        changesNothing("append of 8", input, -2, one -> one.append(-1L));
        changesNothing("append of none", input, 396, one -> one.append(0L));
        HexArbiter called = after200Moves();
        CHECK.same("move", -2, called.move(3));
        CHECK.same("move behind 200 changes nothing", summary(after200Moves()), summary(called));
    }

    /** An object with 200 moves: as many calls as are allowed leave few that can be asked. */
    private static HexArbiter after200Moves() {
        HexArbiter arbiter = new HexArbiter();
        for (int done = 0; done < 200; done++) {
            arbiter.move(3);
            arbiter.put(3, -1);
        }
        arbiter.writeRow(1);
        return arbiter;
    }

    private static String summary(HexArbiter arbiter) {
        StringBuilder text = new StringBuilder();
        for (int left = 8; left >= 0; left = arbiter.undo()) {
            text.append(Check.board(arbiter)).append(' ').append(arbiter.size(4)).append(' ').append(arbiter.size(5));
            text.append(' ').append(arbiter.moveAt(199)).append(' ').append(arbiter.moveAt(200)).append('\n');
        }
        return text.append(Check.output(arbiter)).toString();
    }

    /** Calls that answer NONE "and nothing changes" */
    private static void none() {
        changesNothing("undo", HexArbiter::new, -1, HexArbiter::undo);
        Supplier<HexArbiter> loaded = () -> Check.loaded("board 3; red a1; move b1");
        changesNothing("undo behind a text", loaded, -1, HexArbiter::undo);
        changesNothing("restoreSnapshot(0)", HexArbiter::new, -1, one -> one.restoreSnapshot(0));
        Supplier<HexArbiter> second = () -> {
            HexArbiter arbiter = Check.loaded("board 3; red a1; move b1");
            arbiter.saveSnapshot(0);
            arbiter.put(8, 1);
            return arbiter;
        };
        changesNothing("restoreSnapshot(1)", second, -1, one -> one.restoreSnapshot(1));
    }

    /** "Predictions change nothing." The same holds for all that only tells something. */
    private static void predictions() {
        CHECK.same("red answers", 6, intruded().forced());
        asked("size", one -> one.size(6));
        asked("cell", one -> one.cell(0));
        asked("neighbour", one -> one.neighbour(0, 0));
        asked("group", one -> one.group(1, 2));
        asked("groups", one -> one.groups(0));
        asked("largest", one -> one.largest(0));
        asked("isBridge", one -> one.isBridge(0, 4));
        asked("bridges", one -> one.bridges(0, true));
        asked("bridge", one -> one.bridge(0, 0, 4));
        asked("chain", one -> one.chain(1, 2));
        asked("chains", one -> one.chains(0));
        asked("isSafe", one -> one.isSafe(0));
        asked("answer", one -> one.answer(6));
        asked("threats", one -> one.threats(0));
        asked("threat", one -> one.threat(0, 1));
        asked("forced", HexArbiter::forced);
        asked("distance", one -> one.distance(0));
        asked("through", one -> one.through(1, 7));
        asked("useful", one -> one.useful(1));
        asked("shared", HexArbiter::shared);
        asked("potential", one -> one.potential(0, 7, 100));
        asked("current", one -> one.current(0, 100));
        asked("resistance", one -> one.resistance(1, 100));
        asked("balance", one -> one.balance(100));
        asked("solved", HexArbiter::solved);
        asked("goodMoves", HexArbiter::goodMoves);
        asked("bestMove", HexArbiter::bestMove);
        asked("filled", one -> one.filled(7));
        asked("fillings", one -> one.fillings(0, 7, 100));
        asked("idle", one -> one.idle(7));
        asked("moveAt", one -> one.moveAt(1));
        asked("forcedWinner", HexArbiter::forcedWinner);
        asked("forcedRow", HexArbiter::forcedRow);
        asked("fullness", HexArbiter::fullness);
        asked("outputByte", one -> one.outputByte(0));
        asked("loadError", HexArbiter::loadError);
        asked("loadStatement", HexArbiter::loadStatement);
    }

    private static void asked(String name, Function<HexArbiter, Object> call) {
        changesNothing(name, RefusedCallTest::busy, call.apply(busy()), call);
        changesNothing(name + ", given up", RefusedCallTest::over, call.apply(over()), call);
        changesNothing(name + ", intruded", RefusedCallTest::intruded, call.apply(intruded()), call);
        Object due = Check.outcome(() -> call.apply(new HexArbiter()));
        changesNothing(name + ", a new object", HexArbiter::new, due, call);
        // asked twice it answers the same
        HexArbiter twice = busy();
        CHECK.same(name + ", asked twice", call.apply(twice), call.apply(twice));
    }
}
