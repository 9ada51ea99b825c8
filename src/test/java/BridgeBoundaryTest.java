/**
 * The boundary cases of section 3 and of promises 12 to 21: a method for each sentence of the document,
 * which stands above it.
 */
public final class BridgeBoundaryTest {
    private static final Check CHECK = new Check();
    private static final int[] FAR = {-1, Integer.MIN_VALUE, Integer.MAX_VALUE};
    // the stone c2 has three bridges to cells and one to the edge 0; there are three more behind it
    private static final String FAN = "board 4; red c2 a3 d3 b4";

    public static void main(String[] args) {
        stonesThatAreNoNeighbours();
        justTwoCellsAreNeighboursOfBoth();
        carriersAreFree();
        aStoneThatIsNotAtTheEdge();
        justTwoCellsOfTheEdge();
        carriersOfTheEdgeAreFree();
        theOrderOfBridges();
        eachOneCounts();
        chainsHangTogether();
        aChainReachesAnEdge();
        isBridgeInAnyOrder();
        isBridgeOfNoCell();
        bridgesCounted();
        manyBridges();
        bridgesOfNoSide();
        noSuchBridge();
        bridgeWithWrongArguments();
        chainOfAFreeCell();
        chainOfOneStoneAndOfAll();
        chainWithWrongArguments();
        chainsOfASide();
        safeSides();
        chainsOfNoSide();
        answerWithoutABridge();
        answerThoughTheGameIsOver();
        answerOfNoCell();
        threatsOfASide();
        noThreatsIfItHasJoined();
        noSuchThreat();
        threatsOfNoSide();
        forcedByItsLowestThreat();
        forcedByTheOnlyThreatOfTheOtherSide();
        forcedByTheLatestMove();
        forcedIfThereWasAMove();
        forcedIfItsStoneIsThere();
        forcedIfTheGameIsOver();
        CHECK.end("BridgeBoundaryTest");
    }

    private static void bridgesAre(String text, int side, int[]... due) {
        HexArbiter arbiter = Check.loaded(text);
        CHECK.same(text + ": bridges", due.length, arbiter.bridges(side, false));
        for (int index = 0; index < due.length; index++) {
            for (int what = 0; what < 5; what++) {
                String call = text + ": bridge(" + side + ", " + index + ", " + what + ")";
                CHECK.same(call, due[index][what], arbiter.bridge(side, index, what));
            }
        }
    }

    private static int[] row(int... numbers) {
        return numbers;
    }

    /** "Two stones of a side that are no neighbours form a bridge" */
    private static void stonesThatAreNoNeighbours() {
        // two free cells are neighbours of both, but they are neighbours themselves
        pairIs("b2 c2", "board 4; red b2 c2", 5, 6, false);
        pairIs("b2 b3", "board 4; red b2 b3", 5, 9, false);
        pairIs("c2 b3", "board 4; red c2 b3", 6, 9, false);
        pairIs("b2 c3", "board 4; red b2 c3", 5, 10, true);
        pairIs("d2 b3", "board 4; red d2 b3", 7, 9, true);
        pairIs("c2 b4", "board 4; red c2 b4", 6, 13, true);
        pairIs("of two sides", "board 4; red b2; blue c3", 5, 10, false);
        pairIs("a stone and a free cell", "board 4; red b2", 5, 10, false);
        pairIs("two free cells", "board 4", 5, 10, false);
        pairIs("of blue", "board 4; blue b2 c3", 5, 10, true);
    }

    private static void pairIs(String name, String text, int one, int other, boolean due) {
        HexArbiter arbiter = Check.loaded(text);
        CHECK.same(name, due, arbiter.isBridge(one, other));
        CHECK.same(name + ", in the other order", due, arbiter.isBridge(other, one));
    }

    /** "if just two cells are neighbours of both" */
    private static void justTwoCellsAreNeighboursOfBoth() {
        pairIs("one, to the right", "board 4; red b2 d2", 5, 7, false);
        pairIs("one, below", "board 4; red c2 c4", 6, 14, false);
        pairIs("one, aslant", "board 4; red c1 a3", 2, 8, false);
        pairIs("none", "board 4; red a1 d4", 0, 15, false);
        pairIs("none, beside one row's end", "board 4; red d1 a2", 3, 4, false);
        // this cell has just two neighbours, but it is one stone alone
        pairIs("a cell and itself", "board 4; red a1", 0, 0, false);
        pairIs("the last cell and itself", "board 4; red d4", 15, 15, false);
        pairIs("two on the least board", "board 2; red a1 b2", 0, 3, true);
        pairIs("two at the corners of the largest board", "board 9; red h8 i9", 70, 80, true);
        pairIs("along the edge", "board 3; red c1 a2", 2, 3, true);
        pairIs("along the other edge", "board 3; red b1 a3", 1, 6, true);
    }

    /** "and these are free; they are its carriers" */
    private static void carriersAreFree() {
        bridgesAre("board 5; red b3 c4", 0, row(11, 17, 12, 16, 1), row(17, -11, 21, 22, 1));
        for (String taken : new String[] {"red c3", "red b4", "blue c3", "blue b4", "red c3 b4", "blue c3 b4"}) {
            pairIs(taken, "board 5; red b3 c4; " + taken, 11, 17, false);
        }
    }

    /** "A stone of a side that is not at one of the two edges of its side forms a bridge to that one" */
    private static void aStoneThatIsNotAtTheEdge() {
        // two free cells of the edge are neighbours of the stone, but it is there itself
        bridgesAre("board 4; red b1", 0);
        bridgesAre("board 4; red c4", 0);
        bridgesAre("board 4; blue a2", 1);
        bridgesAre("board 4; blue d3", 1);
        // at the one edge, and with a bridge to the other one
        bridgesAre("board 2; red b1", 0, row(1, -11, 2, 3, 1));
        bridgesAre("board 2; red a2", 0, row(2, -10, 0, 1, 1));
        bridgesAre("board 2; blue b1", 1, row(1, -10, 0, 2, 1));
        bridgesAre("board 2; blue a2", 1, row(2, -11, 1, 3, 1));
        // an edge of the other side is none of its own
        bridgesAre("board 5; red b3", 0);
        bridgesAre("board 5; blue c2", 1);
    }

    /** "if just two cells of it are neighbours of the stone" */
    private static void justTwoCellsOfTheEdge() {
        for (int size = 2; size <= 9; size++) {
            for (int cell = 0; cell < size * size; cell++) {
                int row = cell / size;
                int column = cell % size;
                int red = (row == 1 && column < size - 1 ? 1 : 0) + (row == size - 2 && column > 0 ? 1 : 0);
                int blue = (column == 1 && row < size - 1 ? 1 : 0) + (column == size - 2 && row > 0 ? 1 : 0);
                HexArbiter arbiter = Check.loaded("board " + size);
                arbiter.put(cell, 0);
                CHECK.same(size + ": red in " + cell, red, arbiter.bridges(0, false));
                arbiter.put(cell, 1);
                CHECK.same(size + ": blue in " + cell, blue, arbiter.bridges(1, false));
            }
        }
        bridgesAre("board 3; red a2", 0, row(3, -10, 0, 1, 1));
        bridgesAre("board 3; red c2", 0, row(5, -11, 7, 8, 1));
        bridgesAre("board 3; blue b1", 1, row(1, -10, 0, 3, 1));
        bridgesAre("board 3; blue b3", 1, row(7, -11, 5, 8, 1));
    }

    /** "and these are free; they are its carriers" (of a bridge to an edge) */
    private static void carriersOfTheEdgeAreFree() {
        bridgesAre("board 4; red b2", 0, row(5, -10, 1, 2, 1));
        for (String taken : new String[] {"red b1", "red c1", "blue b1", "blue c1"}) {
            CHECK.same(taken, 0, Check.loaded("board 4; red b2; " + taken).bridges(0, false));
        }
        CHECK.same("beside them", 1, Check.loaded("board 4; red b2; blue a1 d1").bridges(0, false));
    }

    /** "by their lower cell; of the same one first those to cells, by the other cell, then that to the edge 0, ..." */
    private static void theOrderOfBridges() {
        bridgesAre(FAN, 0, row(6, 8, 5, 9, 1), row(6, 11, 7, 10, 1), row(6, 13, 9, 10, 0), row(6, -10, 2, 3, 1),
            row(8, 13, 9, 12, 0), row(11, 13, 10, 14, 0), row(11, -11, 14, 15, 1));
        bridgesAre("board 3; red b2", 0, row(4, -10, 1, 2, 1), row(4, -11, 6, 7, 1));
        bridgesAre("board 3; blue b2", 1, row(4, -10, 3, 6, 1), row(4, -11, 2, 5, 1));
        bridgesAre("board 3; red b2 c3", 0, row(4, 8, 5, 7, 1), row(4, -10, 1, 2, 1), row(4, -11, 6, 7, 0));
    }

    /** "In this order each one counts if none of its carriers is a carrier of one that counts ahead of it." */
    private static void eachOneCounts() {
        // the second one shares a carrier with both; but it does not count, so that the third one does
        bridgesAre("board 5; red b2 c2 d2", 0, row(6, -10, 1, 2, 1), row(7, -10, 2, 3, 0), row(8, -10, 3, 4, 1));
        bridgesAre("board 5; red b2 c2 d2; blue b1", 0, row(7, -10, 2, 3, 1), row(8, -10, 3, 4, 0));
        // the lower carrier of the one ahead is the higher one of the other
        bridgesAre("board 5; red d1 b2", 0, row(3, 6, 2, 7, 1), row(6, -10, 1, 2, 0));
        // those of the other side do not matter
        bridgesAre("board 4; red b2 c3; blue c1 d2", 0, row(5, 10, 6, 9, 1), row(10, -11, 13, 14, 1));
        bridgesAre("board 4; red b2 c3; blue c1 d2", 1, row(2, 7, 3, 6, 1));
    }

    /** "A chain are all stones of a side that hang together by being neighbours, or by bridges that count." */
    private static void chainsHangTogether() {
        HexArbiter arbiter = Check.loaded(FAN);
        CHECK.same("chains", 2, arbiter.chains(0));
        CHECK.same("by bridges that count", 6, arbiter.chain(8, 0));
        CHECK.same("by bridges that count", 6, arbiter.chain(11, 0));
        CHECK.same("not by those that do not", 13, arbiter.chain(13, 0));
        CHECK.same("not by the same edge", 2, Check.loaded("board 5; red a1 e1").chains(0));
        CHECK.same("not by bridges to the same edge", 2, Check.loaded("board 5; red a2 d2").chains(0));
        CHECK.same("by neighbours", 1, Check.loaded("board 5; red b3 c3").chains(0));
        CHECK.same("a carrier taken", 2, Check.loaded("board 5; red b3 c4; blue c3").chains(0));
    }

    /** "It reaches an edge if it has a cell there, or a bridge to it that counts." */
    private static void aChainReachesAnEdge() {
        CHECK.same("neither", 0, Check.loaded("board 5; red c3").chain(12, 3));
        CHECK.same("a cell at the edge 0", 1, Check.loaded("board 5; red c1").chain(2, 3));
        CHECK.same("a cell at the edge 1", 2, Check.loaded("board 5; red c5").chain(22, 3));
        CHECK.same("a bridge to the edge 0", 1, Check.loaded("board 5; red c2").chain(7, 3));
        CHECK.same("a bridge to the edge 1", 2, Check.loaded("board 5; red c4").chain(17, 3));
        CHECK.same("both by bridges", 3, Check.loaded("board 3; red b2").chain(4, 3));
        CHECK.same("by those of another stone in it", 3, Check.loaded("board 4; red b2 b3").chain(5, 3));
        CHECK.same("a broken bridge", 0, Check.loaded("board 5; red c2; blue c1").chain(7, 3));
    }

    /** Promise 12: "Returns true if so, in any order." */
    private static void isBridgeInAnyOrder() {
        HexArbiter arbiter = Check.loaded(FAN);
        int[][] pairs = {{6, 8}, {6, 11}, {6, 13}, {8, 13}, {11, 13}};
        for (int one = 0; one < 16; one++) {
            for (int other = one; other < 16; other++) {
                boolean due = false;
                for (int[] pair : pairs) {
                    due |= pair[0] == one && pair[1] == other;
                }
                CHECK.same("isBridge(" + one + ", " + other + ")", due, arbiter.isBridge(one, other));
                CHECK.same("isBridge(" + other + ", " + one + ")", due, arbiter.isBridge(other, one));
            }
        }
    }

    /** Promise 12: "IndexOutOfBoundsException if there is no such cell" */
    private static void isBridgeOfNoCell() {
        HexArbiter arbiter = Check.loaded("board 3; red b2");
        CHECK.same("the last cell", false, arbiter.isBridge(4, 8));
        CHECK.outside("isBridge(9, 4)", () -> arbiter.isBridge(9, 4));
        CHECK.outside("isBridge(4, 9)", () -> arbiter.isBridge(4, 9));
        CHECK.outside("an edge is no cell", () -> arbiter.isBridge(4, -10));
        CHECK.outside("the free cell first", () -> arbiter.isBridge(0, 9));
        for (int cell : FAR) {
            CHECK.outside("isBridge(" + cell + ", 4)", () -> arbiter.isBridge(cell, 4));
            CHECK.outside("isBridge(4, " + cell + ")", () -> arbiter.isBridge(4, cell));
        }
    }

    /** Promise 13: "true for those that count alone" */
    private static void bridgesCounted() {
        HexArbiter arbiter = Check.loaded(FAN);
        CHECK.same("all", 7, arbiter.bridges(0, false));
        CHECK.same("those that count", 4, arbiter.bridges(0, true));
        CHECK.same("none of blue", 0, arbiter.bridges(1, false));
        CHECK.same("none of blue that count", 0, arbiter.bridges(1, true));
        CHECK.same("an empty board", 0, new HexArbiter().bridges(0, false));
        CHECK.same("a full board", 0, Check.loaded("board 2; red a1 b1 a2 b2").bridges(0, false));
    }

    /** Promise 13 and 14 with as many stones as can stand so that each one has all its bridges */
    private static void manyBridges() {
        String cells = "a1d1g1b2e2h2c3f3i3a4d4g4b5e5h5c6f6i6a7d7g7b8e8h8c9f9i9";
        HexArbiter arbiter = Check.loaded("board 9; red " + cells);
        Reference reference = new Reference();
        for (char one : ("board 9; red " + cells).toCharArray()) {
            reference.append(one);
        }
        reference.load();
        int many = reference.bridges(0, false);
        CHECK.isTrue("there are many", many > 60);
        CHECK.same("all", many, arbiter.bridges(0, false));
        CHECK.same("those that count", reference.bridges(0, true), arbiter.bridges(0, true));
        CHECK.same("the chains", reference.chains(0), arbiter.chains(0));
        for (int index = 0; index <= many; index++) {
            for (int what = 0; what <= 4; what++) {
                CHECK.same("bridge " + index, reference.bridge(0, index, what), arbiter.bridge(0, index, what));
            }
        }
    }

    /** Promise 13: "IllegalArgumentException if side is out of range" */
    private static void bridgesOfNoSide() {
        HexArbiter arbiter = Check.loaded(FAN);
        for (boolean counting : new boolean[] {false, true}) {
            CHECK.illegal("bridges(2, " + counting + ")", () -> arbiter.bridges(2, counting));
            for (int side : FAR) {
                CHECK.illegal("bridges(" + side + ", " + counting + ")", () -> arbiter.bridges(side, counting));
            }
        }
    }

    /** Promise 14: "NONE if there is no such bridge" */
    private static void noSuchBridge() {
        HexArbiter arbiter = Check.loaded(FAN);
        for (int what = 0; what <= 4; what++) {
            CHECK.isTrue("the last one", arbiter.bridge(0, 6, what) != -1);
            CHECK.same("behind it", -1, arbiter.bridge(0, 7, what));
            CHECK.same("of blue", -1, arbiter.bridge(1, 0, what));
            CHECK.same("without stones", -1, new HexArbiter().bridge(0, 0, what));
            for (int index : FAR) {
                CHECK.same("bridge(0, " + index + ", " + what + ")", -1, arbiter.bridge(0, index, what));
            }
        }
    }

    /** Promise 14: "IllegalArgumentException if side or what is out of range" */
    private static void bridgeWithWrongArguments() {
        HexArbiter arbiter = Check.loaded(FAN);
        CHECK.illegal("bridge(2, 0, 0)", () -> arbiter.bridge(2, 0, 0));
        CHECK.illegal("bridge(0, 0, 5)", () -> arbiter.bridge(0, 0, 5));
        CHECK.illegal("no such bridge either", () -> arbiter.bridge(0, 7, 5));
        CHECK.illegal("no such bridge either", () -> arbiter.bridge(2, -1, 0));
        for (int far : FAR) {
            CHECK.illegal("bridge(" + far + ", 0, 0)", () -> arbiter.bridge(far, 0, 0));
            CHECK.illegal("bridge(0, 0, " + far + ")", () -> arbiter.bridge(0, 0, far));
        }
    }

    /** Promise 15: "NONE if the cell is free" */
    private static void chainOfAFreeCell() {
        HexArbiter arbiter = Check.loaded(FAN);
        for (int what = 0; what <= 3; what++) {
            CHECK.same("a carrier", -1, arbiter.chain(9, what));
            CHECK.same("another free cell", -1, arbiter.chain(0, what));
            CHECK.same("an empty board", -1, new HexArbiter().chain(0, what));
        }
    }

    /** Promise 15: "0 its lowest cell, 1 its stones, 2 the bridges that count in it (also those to edges), 3 ..." */
    private static void chainOfOneStoneAndOfAll() {
        chainIs("board 5; red c3", 12, 12, 1, 0, 0);
        chainIs("board 3; red b2", 4, 4, 1, 2, 3);
        chainIs("board 2; red a1 b1 a2 b2", 3, 0, 4, 0, 3);
        chainIs(FAN, 11, 6, 3, 4, 3);
        chainIs(FAN, 13, 13, 1, 0, 2);
        // a bridge within a group is in the chain, too
        chainIs("board 4; red b2 c1 d1 d2 c3", 7, 2, 5, 2, 3);
        // and one to an edge that does not count
        chainIs("board 4; red b2 c2", 6, 5, 2, 1, 1);
    }

    private static void chainIs(String text, int cell, int... due) {
        HexArbiter arbiter = Check.loaded(text);
        for (int what = 0; what < due.length; what++) {
            CHECK.same(text + ": chain(" + cell + ", " + what + ")", due[what], arbiter.chain(cell, what));
        }
    }

    /** Promise 15: "IndexOutOfBoundsException if there is no such cell", "IllegalArgumentException if what is ..." */
    private static void chainWithWrongArguments() {
        HexArbiter arbiter = Check.loaded("board 3; red a1");
        CHECK.outside("chain(9, 0)", () -> arbiter.chain(9, 0));
        CHECK.illegal("chain(0, 4)", () -> arbiter.chain(0, 4));
        CHECK.illegal("chain(1, 4), a free cell", () -> arbiter.chain(1, 4));
        CHECK.outside("chain(9, 4), both", () -> arbiter.chain(9, 4));
        for (int far : FAR) {
            CHECK.outside("chain(" + far + ", 3)", () -> arbiter.chain(far, 3));
            CHECK.illegal("chain(0, " + far + ")", () -> arbiter.chain(0, far));
            CHECK.outside("chain(" + far + ", " + far + ")", () -> arbiter.chain(far, far));
        }
    }

    /** Promise 16: "Counts the chains of a side." */
    private static void chainsOfASide() {
        CHECK.same("none", 0, new HexArbiter().chains(0));
        CHECK.same("one stone", 1, Check.loaded("board 2; blue b2").chains(1));
        CHECK.same("a full board", 1, Check.loaded("board 2; blue a1 b1 a2 b2").chains(1));
        CHECK.same("each one its own", 3, Check.loaded("board 5; red a1 e1 c5").chains(0));
    }

    /** Promise 17, and "A side is safe if a chain of it reaches both edges." */
    private static void safeSides() {
        safeIs("nothing", "board 2", false);
        safeIs("joined", "board 2; red a1 a2", true);
        safeIs("a bridge to each edge", "board 3; red b2", true);
        safeIs("the one broken", "board 3; red b2; blue b1", false);
        safeIs("the other one broken", "board 3; red b2; blue b3", false);
        safeIs("a cell and a bridge", "board 2; red b1", true);
        safeIs("a bridge and a cell", "board 2; red a2", true);
        safeIs("a cell without a bridge", "board 2; red a1", false);
        safeIs("two chains, with an edge each", "board 3; red a1 c3", false);
        safeIs("a bridge between", "board 4; red b1 b2 c3 c4", true);
        safeIs("a bridge between that is broken", "board 4; red b1 b2 c3 c4; blue c2", false);
        safeIs("the other side's stones", "board 3; blue b2", false);
    }

    private static void safeIs(String name, String text, boolean due) {
        HexArbiter arbiter = Check.loaded(text);
        CHECK.same(name, due, arbiter.isSafe(0));
        arbiter.turnOver();
        CHECK.same(name + ", turned over", due, arbiter.isSafe(1));
    }

    /** Promises 16 and 17: "IllegalArgumentException if side is out of range" */
    private static void chainsOfNoSide() {
        HexArbiter arbiter = new HexArbiter();
        CHECK.illegal("chains(2)", () -> arbiter.chains(2));
        CHECK.illegal("isSafe(2)", () -> arbiter.isSafe(2));
        for (int side : FAR) {
            CHECK.illegal("chains(" + side + ")", () -> arbiter.chains(side));
            CHECK.illegal("isSafe(" + side + ")", () -> arbiter.isSafe(side));
        }
    }

    /** Promise 18: "NONE if there is no such bridge, or the cell is not free" */
    private static void answerWithoutABridge() {
        HexArbiter arbiter = Check.loaded(FAN + "; turn blue");
        int[] due = {-1, -1, 3, 2, -1, 9, -1, 10, -1, 5, 7, -1, -1, -1, 15, 14};
        for (int cell = 0; cell < due.length; cell++) {
            CHECK.same("answer(" + cell + ")", due[cell], arbiter.answer(cell));
        }
        arbiter.setTurn(0);
        for (int cell = 0; cell < due.length; cell++) {
            CHECK.same("its own bridges, answer(" + cell + ")", -1, arbiter.answer(cell));
        }
        CHECK.same("an empty board", -1, new HexArbiter().answer(0));
    }

    /** Promise 18: "(whether the game is over or not)" */
    private static void answerThoughTheGameIsOver() {
        HexArbiter given = Check.loaded("board 3; red b2; turn blue");
        CHECK.same("not over", 7, given.answer(6));
        given.giveUp();
        CHECK.same("given up", 7, given.answer(6));
        HexArbiter joined = Check.loaded("board 4; blue a1 b1 c1 d1; red b3; turn blue");
        CHECK.same("over", 1, joined.size(6));
        CHECK.same("joined", 12, joined.answer(13));
    }

    /** Promise 18: "IndexOutOfBoundsException if there is no such cell" */
    private static void answerOfNoCell() {
        HexArbiter arbiter = Check.loaded("board 3; red b2; turn blue");
        CHECK.same("the last cell", -1, arbiter.answer(8));
        CHECK.outside("answer(9)", () -> arbiter.answer(9));
        for (int cell : FAR) {
            CHECK.outside("answer(" + cell + ")", () -> arbiter.answer(cell));
        }
    }

    /** Promise 19: "Counts the free cells with which a side would join at once." */
    private static void threatsOfASide() {
        threatsAre("an empty board", "board 2");
        threatsAre("one stone", "board 2; red a1", 2);
        threatsAre("one stone", "board 2; red b1", 2, 3);
        threatsAre("two are missing", "board 3; red b2");
        threatsAre("between two groups", "board 3; red b1 b3", 4);
        threatsAre("an edge cell", "board 3; red b2 b3", 1, 2);
        threatsAre("a stone of the other side there", "board 3; red b2 b3; blue b1", 2);
        threatsAre("both taken", "board 3; red b2 b3; blue b1 c1");
        threatsAre("groups of one edge", "board 5; red a2 b1 d1 e1");
        threatsAre("the first and the last cell", "board 3; red a2 a3 c1 c2; blue b1 b2 b3", 0, 8);
        threatsAre("five", "board 3; red a2 a3 c1 c2", 0, 1, 4, 7, 8);
    }

    private static void threatsAre(String name, String text, int... due) {
        HexArbiter arbiter = Check.loaded(text);
        CHECK.same(name + ": threats(0)", due.length, arbiter.threats(0));
        for (int index = 0; index < due.length; index++) {
            CHECK.same(name + ": threat " + index, due[index], arbiter.threat(0, index));
        }
        CHECK.same(name + ": behind the last one", -1, arbiter.threat(0, due.length));
    }

    /** Promise 19: "0 if it has joined (whether the game is over otherwise or not)" */
    private static void noThreatsIfItHasJoined() {
        HexArbiter arbiter = Check.loaded("board 3; red b1 b2");
        CHECK.same("two threats", 2, arbiter.threats(0));
        arbiter.giveUp();
        CHECK.same("given up", 2, arbiter.threats(0));
        CHECK.same("given up: threat 1", 7, arbiter.threat(0, 1));
        arbiter.put(6, 0);
        CHECK.same("joined", 0, arbiter.threats(0));
        CHECK.same("joined: no such place", -1, arbiter.threat(0, 0));
        HexArbiter other = Check.loaded("board 3; red b1 b2 b3; blue a2 c2");
        CHECK.same("the other side has joined", 0, other.threats(1));
    }

    /** Promise 20: "NONE if there is no such place" */
    private static void noSuchThreat() {
        HexArbiter arbiter = Check.loaded("board 3; red b1 b2");
        CHECK.same("the first one", 6, arbiter.threat(0, 0));
        CHECK.same("the last one", 7, arbiter.threat(0, 1));
        CHECK.same("behind it", -1, arbiter.threat(0, 2));
        CHECK.same("of blue", -1, arbiter.threat(1, 0));
        for (int index : FAR) {
            CHECK.same("threat(0, " + index + ")", -1, arbiter.threat(0, index));
        }
    }

    /** Promises 19 and 20: "IllegalArgumentException if side is out of range" */
    private static void threatsOfNoSide() {
        HexArbiter arbiter = Check.loaded("board 3; red b1 b2");
        CHECK.illegal("threats(2)", () -> arbiter.threats(2));
        CHECK.illegal("threat(2, 0)", () -> arbiter.threat(2, 0));
        CHECK.illegal("threat(2, -1)", () -> arbiter.threat(2, -1));
        for (int side : FAR) {
            CHECK.illegal("threats(" + side + ")", () -> arbiter.threats(side));
            CHECK.illegal("threat(" + side + ", 0)", () -> arbiter.threat(side, 0));
        }
    }

    private static void forcedIs(String name, String text, int due) {
        CHECK.same(name, due, Check.loaded(text).forced());
    }

    /** Promise 21: "its lowest threat" */
    private static void forcedByItsLowestThreat() {
        forcedIs("of two", "board 3; red b1 b2", 6);
        forcedIs("of one", "board 3; red b1 b2; blue a3", 7);
        forcedIs("though the other side has one", "board 2; red a1; blue b1; turn red", 2);
        forcedIs("blue's", "board 3; blue b1 b2; turn blue", -1);
        forcedIs("blue's", "board 3; blue a2 b2; turn blue", 2);
    }

    /** Promise 21: "without one the only threat of the other side", "NONE ... if the other side has several threats" */
    private static void forcedByTheOnlyThreatOfTheOtherSide() {
        forcedIs("one", "board 3; red a1 a2; turn blue", 6);
        forcedIs("two", "board 3; red b1 b2; turn blue", -1);
        forcedIs("two, and one taken", "board 3; red b1 b2; turn blue; move a3; turn blue", 7);
        forcedIs("none", "board 3; red b1; turn blue", -1);
        forcedIs("two, and a bridge to answer", "board 4; blue b3; red c1 c2; turn red; move c3", -1);
        forcedIs("one ahead of a bridge", "board 4; red b3; blue a1 b1 c1; turn blue; move b4", 3);
    }

    /** Promise 21: "the other carrier of a bridge ... that would count if the stone of that move was not there" */
    private static void forcedByTheLatestMove() {
        forcedIs("the lower carrier taken", "board 5; red b3 c4; turn blue; move c3", 16);
        forcedIs("the higher carrier taken", "board 5; red b3 c4; turn blue; move b4", 12);
        forcedIs("a carrier of the edge", "board 5; red c4; turn blue; move c5", 21);
        forcedIs("in the first cell", "board 4; red a2; turn blue; move a1", 1);
        forcedIs("in the last cell", "board 4; red d3; turn blue; move d4", 14);
        forcedIs("the bridge that would count", "board 5; red b2 c2; turn blue; move c1", 1);
        forcedIs("one that would not", "board 5; red b2 c2; turn blue; move d1", -1);
        forcedIs("no carrier", "board 5; red b3 c4; turn blue; move a1", -1);
        forcedIs("the other carrier is taken, too", "board 5; red b3 c4; blue c3; turn blue; move b4", -1);
        forcedIs("a bridge of the side that moved", "board 5; red b3 c4; turn red; move c3", -1);
        forcedIs("not the move ahead", "board 5; red b3 c4; turn blue; move c3 e1 a1", -1);
    }

    /** Promise 21: "if there was a move" */
    private static void forcedIfThereWasAMove() {
        forcedIs("no move", "board 5; red b3 c4; blue c3", -1);
        forcedIs("nothing at all", "board 2", -1);
        HexArbiter arbiter = Check.loaded("board 5; red b3 c4; turn blue");
        arbiter.move(12);
        CHECK.same("a move", 16, arbiter.forced());
        arbiter.undo();
        arbiter.put(12, 1);
        arbiter.setTurn(0);
        CHECK.same("a stone that was put", -1, arbiter.forced());
    }

    /** Promise 21: "and its cell has a stone of the other side now" */
    private static void forcedIfItsStoneIsThere() {
        HexArbiter arbiter = Check.loaded("board 5; red b3 c4; turn blue; move c3");
        CHECK.same("it is there", 16, arbiter.forced());
        arbiter.put(12, -1);
        CHECK.same("it is gone", -1, arbiter.forced());
        arbiter.put(12, 0);
        CHECK.same("another one is there", -1, arbiter.forced());
        arbiter.put(12, 1);
        CHECK.same("it is back", 16, arbiter.forced());
        arbiter.setTurn(1);
        CHECK.same("it is not of the other side", -1, arbiter.forced());
    }

    /** Promise 21: "NONE if ... the game is over" */
    private static void forcedIfTheGameIsOver() {
        HexArbiter own = Check.loaded("board 3; red b1 b2");
        own.giveUp();
        CHECK.same("its own threat", -1, own.forced());
        own.undo();
        CHECK.same("taken back", 6, own.forced());
        HexArbiter other = Check.loaded("board 3; red a1 a2; turn blue");
        other.giveUp();
        CHECK.same("a threat of the other side", -1, other.forced());
        HexArbiter moved = Check.loaded("board 5; red b3 c4; turn blue; move c3");
        moved.giveUp();
        CHECK.same("a bridge", -1, moved.forced());
        forcedIs("joined", "board 5; red b3 c4; blue a1 b1 c1 d1; turn blue; move e1", -1);
    }
}
