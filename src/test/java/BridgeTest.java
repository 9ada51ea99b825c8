import java.util.Set;

/** Promises 12 to 18: bridges, chains and answers. */
public final class BridgeTest {
    private static final Check CHECK = new Check();
    // of the bridges of red, three count; those from c4 to the other two stones do not
    private static final String CROSSING = "board 5; red d2 b3 c4";
    // all red stones are one group, with a bridge within it; a blue bridge would not fit
    private static final String RING = "board 4; red b2 c1 d1 d2 c3";
    // a bridge of each side has the cell c2 as a carrier
    private static final String CROSSED = "board 4; red b2 c3; blue c1 d2";

    public static void main(String[] args) {
        pairsRoundAStone();
        pairs();
        counts();
        numbers();
        edgeBridges();
        chainNumbers();
        chainCounts();
        safety();
        answers();
        CHECK.end("BridgeTest");
    }

    /** Promise 12. */
    private static void pairsRoundAStone() {
        Set<Integer> bridged = Set.of(3, 6, 9, 15, 18, 21);
        for (int cell = 0; cell < 25; cell++) {
            HexArbiter arbiter = Check.loaded("board 5; red c3");
            arbiter.put(cell, 0);
            boolean due = bridged.contains(cell);
            CHECK.same("isBridge(12, " + cell + ")", due, arbiter.isBridge(12, cell));
            CHECK.same("isBridge(" + cell + ", 12)", due, arbiter.isBridge(cell, 12));
            CHECK.same("bridges with " + cell, due, bridgesToCells(arbiter) == 1);
        }
    }

    private static int bridgesToCells(HexArbiter arbiter) {
        int many = 0;
        for (int index = 0; index < arbiter.bridges(0, false); index++) {
            many += arbiter.bridge(0, index, 1) >= 0 ? 1 : 0;
        }
        return many;
    }

    private static void pairs() {
        HexArbiter corner = Check.loaded("board 2; red a1");
        CHECK.same("a stone with itself", false, corner.isBridge(0, 0));
        HexArbiter arbiter = Check.loaded("board 5; red d2 b3; blue c4");
        CHECK.same("of one side", true, arbiter.isBridge(8, 11));
        CHECK.same("of two sides", false, arbiter.isBridge(8, 17));
        CHECK.same("free cells", false, arbiter.isBridge(1, 7));
        CHECK.same("a stone and a free cell", false, arbiter.isBridge(8, 14));
        arbiter.put(12, 1);
        CHECK.same("a carrier taken by blue", false, arbiter.isBridge(8, 11));
        arbiter.put(12, 0);
        CHECK.same("a carrier taken by red", false, arbiter.isBridge(8, 11));
        CHECK.same("one that does not count", true, Check.loaded(CROSSING).isBridge(17, 8));
        CHECK.same("within a group", true, Check.loaded(RING).isBridge(5, 10));
        CHECK.outside("isBridge(25, 0)", () -> arbiter.isBridge(25, 0));
        CHECK.outside("isBridge(0, 25)", () -> arbiter.isBridge(0, 25));
        CHECK.outside("isBridge(-1, 0)", () -> arbiter.isBridge(-1, 0));
        CHECK.outside("isBridge(0, -1)", () -> arbiter.isBridge(0, -1));
        CHECK.outside("isBridge(8, -10)", () -> arbiter.isBridge(8, -10));
    }

    /** Promise 13. */
    private static void counts() {
        countsAre(CROSSING, 0, 5, 3);
        countsAre(CROSSING, 1, 0, 0);
        countsAre(RING, 0, 2, 2);
        countsAre(CROSSED, 0, 2, 2);
        countsAre(CROSSED, 1, 1, 1);
        HexArbiter arbiter = new HexArbiter();
        for (int side : new int[] {-1, 2, Integer.MIN_VALUE, Integer.MAX_VALUE}) {
            CHECK.illegal("bridges(" + side + ", false)", () -> arbiter.bridges(side, false));
            CHECK.illegal("bridges(" + side + ", true)", () -> arbiter.bridges(side, true));
        }
    }

    private static void countsAre(String text, int side, int all, int counting) {
        HexArbiter arbiter = Check.loaded(text);
        CHECK.same(text + ": bridges(" + side + ", false)", all, arbiter.bridges(side, false));
        CHECK.same(text + ": bridges(" + side + ", true)", counting, arbiter.bridges(side, true));
        arbiter.turnOver();
        CHECK.same(text + ": turned over, false", all, arbiter.bridges(1 - side, false));
        CHECK.same(text + ": turned over, true", counting, arbiter.bridges(1 - side, true));
    }

    /** Promise 14. */
    private static void numbers() {
        HexArbiter arbiter = Check.loaded(CROSSING);
        bridgeIs(arbiter, 0, 0, 8, 11, 7, 12, 1);
        bridgeIs(arbiter, 0, 1, 8, 17, 12, 13, 0);
        bridgeIs(arbiter, 0, 2, 8, -10, 3, 4, 1);
        bridgeIs(arbiter, 0, 3, 11, 17, 12, 16, 0);
        bridgeIs(arbiter, 0, 4, 17, -11, 21, 22, 1);
        bridgeIs(arbiter, 0, 5, -1, -1, -1, -1, -1);
        bridgeIs(arbiter, 0, -1, -1, -1, -1, -1, -1);
        bridgeIs(arbiter, 0, Integer.MAX_VALUE, -1, -1, -1, -1, -1);
        bridgeIs(arbiter, 1, 0, -1, -1, -1, -1, -1);
        // the first carrier of a bridge that counts is the first one of a later bridge, too
        HexArbiter first = Check.loaded("board 5; red d2 b3 c4; blue c2");
        bridgeIs(first, 0, 0, 8, 17, 12, 13, 1);
        bridgeIs(first, 0, 1, 8, -10, 3, 4, 1);
        bridgeIs(first, 0, 2, 11, 17, 12, 16, 0);
        bridgeIs(first, 0, 3, 17, -11, 21, 22, 1);
        // the bridge to a cell comes ahead of that to the edge
        HexArbiter corner = Check.loaded("board 5; red a1 b2");
        bridgeIs(corner, 0, 0, 0, 6, 1, 5, 1);
        bridgeIs(corner, 0, 1, 6, -10, 1, 2, 0);
        bridgeIs(corner, 0, 2, -1, -1, -1, -1, -1);
        arbiter.turnOver();
        bridgeIs(arbiter, 1, 0, 7, 13, 8, 12, 1);
        bridgeIs(arbiter, 1, 1, 7, 16, 11, 12, 0);
        bridgeIs(arbiter, 1, 2, 13, 16, 12, 17, 0);
        bridgeIs(arbiter, 1, 3, 13, -11, 9, 14, 1);
        bridgeIs(arbiter, 1, 4, 16, -10, 15, 20, 1);
        for (int bad : new int[] {-1, 5, Integer.MIN_VALUE, Integer.MAX_VALUE}) {
            CHECK.illegal("bridge(1, 0, " + bad + ")", () -> arbiter.bridge(1, 0, bad));
            CHECK.illegal("bridge(1, 99, " + bad + ")", () -> arbiter.bridge(1, 99, bad));
        }
        CHECK.illegal("bridge(2, 0, 0)", () -> arbiter.bridge(2, 0, 0));
        CHECK.illegal("bridge(-1, 0, 0)", () -> arbiter.bridge(-1, 0, 0));
    }

    private static void edgeBridges() {
        HexArbiter middle = Check.loaded("board 3; red b2");
        bridgeIs(middle, 0, 0, 4, -10, 1, 2, 1);
        bridgeIs(middle, 0, 1, 4, -11, 6, 7, 1);
        bridgeIs(Check.loaded("board 3; blue b2"), 1, 0, 4, -10, 3, 6, 1);
        bridgeIs(Check.loaded("board 3; blue b2"), 1, 1, 4, -11, 2, 5, 1);
        bridgeIs(Check.loaded("board 2; red b1"), 0, 0, 1, -11, 2, 3, 1);
        bridgeIs(Check.loaded("board 2; red a2"), 0, 0, 2, -10, 0, 1, 1);
        noBridges("a single cell above", "board 4; red d2");
        noBridges("a single cell below", "board 4; red a3");
        noBridges("at the edge itself", "board 4; red b1 c4");
        noBridges("a carrier taken", "board 4; red b2; blue c1");
        HexArbiter two = Check.loaded("board 4; red b2 c2");
        bridgeIs(two, 0, 0, 5, -10, 1, 2, 1);
        bridgeIs(two, 0, 1, 6, -10, 2, 3, 0);
    }

    private static void noBridges(String name, String text) {
        CHECK.same(name, 0, Check.loaded(text).bridges(0, false));
    }

    private static void bridgeIs(HexArbiter arbiter, int side, int index, int... due) {
        for (int what = 0; what < due.length; what++) {
            String call = "bridge(" + side + ", " + index + ", " + what + ")";
            CHECK.same(call, due[what], arbiter.bridge(side, index, what));
        }
    }

    /** Promise 15. */
    private static void chainNumbers() {
        HexArbiter arbiter = Check.loaded(CROSSING);
        chainIs(arbiter, 8, 8, 2, 2, 1);
        chainIs(arbiter, 11, 8, 2, 2, 1);
        chainIs(arbiter, 17, 17, 1, 1, 2);
        chainIs(arbiter, 12, -1, -1, -1, -1);
        chainIs(Check.loaded(RING), 7, 2, 5, 2, 3);
        // the bridge to the edge that does not count is that of the other stone in the chain
        chainIs(Check.loaded("board 4; red b2 c2"), 6, 5, 2, 1, 1);
        chainIs(Check.loaded("board 4; blue a1 a2 b4"), 4, 0, 2, 0, 1);
        chainIs(Check.loaded("board 4; blue a1 a2 b4"), 13, 13, 1, 0, 0);
        for (int what : new int[] {-1, 4, Integer.MIN_VALUE, Integer.MAX_VALUE}) {
            CHECK.illegal("chain of a stone", () -> arbiter.chain(8, what));
            CHECK.illegal("chain of a free cell", () -> arbiter.chain(0, what));
            CHECK.outside("chain of no cell", () -> arbiter.chain(25, what));
        }
        CHECK.outside("chain(-1, 0)", () -> arbiter.chain(-1, 0));
    }

    private static void chainIs(HexArbiter arbiter, int cell, int... due) {
        for (int what = 0; what < due.length; what++) {
            CHECK.same("chain(" + cell + ", " + what + ")", due[what], arbiter.chain(cell, what));
        }
    }

    /** Promise 16. */
    private static void chainCounts() {
        HexArbiter arbiter = Check.loaded(CROSSING);
        CHECK.same("chains(0)", 2, arbiter.chains(0));
        CHECK.same("chains(1)", 0, arbiter.chains(1));
        CHECK.same("by neighbours", 1, Check.loaded(RING).chains(0));
        CHECK.same("by bridges", 1, Check.loaded(CROSSED).chains(1));
        CHECK.same("both reach an edge, but are two", 2, Check.loaded("board 5; red a1 d2").chains(0));
        for (int side : new int[] {-1, 2, Integer.MIN_VALUE, Integer.MAX_VALUE}) {
            CHECK.illegal("chains(" + side + ")", () -> arbiter.chains(side));
            CHECK.illegal("isSafe(" + side + ")", () -> arbiter.isSafe(side));
        }
    }

    /** Promise 17. */
    private static void safety() {
        CHECK.same("by two bridges", true, Check.loaded("board 3; red b2").isSafe(0));
        CHECK.same("not for the other side", false, Check.loaded("board 3; red b2").isSafe(1));
        CHECK.same("blue", true, Check.loaded("board 3; blue b2").isSafe(1));
        CHECK.same("a cell and a bridge", true, Check.loaded(RING).isSafe(0));
        CHECK.same("joined", true, Check.loaded("board 2; red a1 a2").isSafe(0));
        CHECK.same("a bridge between two edges", true, Check.loaded("board 4; red c1 b3 b4").isSafe(0));
        CHECK.same("that bridge broken", false, Check.loaded("board 4; red c1 b3 b4; blue b2").isSafe(0));
        CHECK.same("of two chains", false, Check.loaded(CROSSING).isSafe(0));
        CHECK.same("nothing", false, new HexArbiter().isSafe(0));
        CHECK.same("a carrier taken", false, Check.loaded("board 3; red b2; blue a3").isSafe(0));
    }

    /** Promise 18. */
    private static void answers() {
        HexArbiter arbiter = Check.loaded(CROSSING + "; turn blue");
        int[] asked = {7, 12, 3, 4, 21, 22, 13, 16, 8, 0};
        int[] due = {12, 7, 4, 3, 22, 21, -1, -1, -1, -1};
        for (int index = 0; index < asked.length; index++) {
            CHECK.same("answer(" + asked[index] + ")", due[index], arbiter.answer(asked[index]));
        }
        arbiter.giveUp();
        CHECK.same("though the game is over", 12, arbiter.answer(7));
        arbiter.setTurn(0);
        CHECK.same("a bridge of the side to move", -1, arbiter.answer(7));
        HexArbiter crossed = Check.loaded(CROSSED);
        CHECK.same("blue answers red", 3, crossed.answer(6));
        crossed.setTurn(1);
        CHECK.same("red answers blue", 9, crossed.answer(6));
        CHECK.outside("answer(25)", () -> arbiter.answer(25));
        CHECK.outside("answer(-1)", () -> arbiter.answer(-1));
        CHECK.outside("answer(-10)", () -> arbiter.answer(-10));
    }
}
