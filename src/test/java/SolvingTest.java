/** Promises 30 to 35: the last moves and boards filled by chance. */
public final class SolvingTest {
    private static final Check CHECK = new Check();

    public static void main(String[] args) {
        solving();
        limitsOfSolving();
        fillingOnce();
        fillingOften();
        idleCells();
        wrongInputs();
        CHECK.end("SolvingTest");
    }

    /** Promises 30 to 32. */
    private static void solving() {
        solvedIs("board 2", 0, 2, 1);
        solvedIs("board 2; turn blue", 1, 2, 1);
        solvedIs("board 2; move a1", 1, 1, 2);
        solvedIs("board 2; move b1", 0, 0, -1);
        solvedIs("board 2; move b1 a2", 0, 1, 3);
        solvedIs("board 2; red a1; blue b1; turn blue", 1, 1, 2);
        solvedIs("board 2; move b1 a2 b2", 0, 0, -1);
        // red's bridge to the edge 1 holds, whoever begins
        solvedIs("board 3; red b1 b2; turn blue", -1, -1, -1);
        solvedIs("board 3; red b1 b2; blue a1; turn blue", 0, 0, -1);
        solvedIs("board 3; red b1 b2; blue a1", 0, 6, 2);
        solvedIs("board 3; blue a1 a2 c2; red c3 c1; turn red", 0, 1, 4);
        solvedIs("board 3; blue a1 a2 c2; red c3 c1; turn blue", 1, 3, 4);
        solvedIs("board 2; red a1 b2; blue b1; turn blue", 1, 1, 2);
        solvedIs("board 2; red a1 b2; blue b1; turn red", 0, 1, 2);
        // three bridges of red, all of which it needs: the very last of the 6 cells decides
        String bridges = "board 5; red d2 c4; blue a1 b1 c1 a2 b2 c2 e2 a3 b3 e3 a4 b4 d4 e4 a5 d5 e5";
        solvedIs(bridges + "; turn blue", 0, 0, -1);
        solvedIs(bridges + "; turn red", 0, 6, 3);
    }

    private static void solvedIs(String text, int side, int many, int best) {
        HexArbiter arbiter = Check.loaded(text);
        CHECK.same(text + ": solved()", side, arbiter.solved());
        CHECK.same(text + ": goodMoves()", many, arbiter.goodMoves());
        CHECK.same(text + ": bestMove()", best, arbiter.bestMove());
        CHECK.same(text + ": changed nothing", Check.board(Check.loaded(text)), Check.board(arbiter));
    }

    private static void limitsOfSolving() {
        HexArbiter arbiter = Check.loaded("board 3; red a1; blue b2 c3");
        CHECK.same("6 free cells", 1, arbiter.solved());
        CHECK.same("6 free cells: goodMoves()", 0, arbiter.goodMoves());
        arbiter.put(8, -1);
        CHECK.same("7 free cells", -1, arbiter.solved());
        CHECK.same("7 free cells: goodMoves()", -1, arbiter.goodMoves());
        CHECK.same("7 free cells: bestMove()", -1, arbiter.bestMove());
        arbiter.giveUp();
        CHECK.same("given up: solved()", 1, arbiter.solved());
        CHECK.same("given up: goodMoves()", 0, arbiter.goodMoves());
        CHECK.same("given up: bestMove()", -1, arbiter.bestMove());
        HexArbiter asked = Check.loaded("board 2; move b1 a2");
        CHECK.same("bestMove() asked first", 3, asked.bestMove());
        asked.put(2, -1);
        CHECK.same("goodMoves() asked behind a change", 3, asked.goodMoves());
        CHECK.same("bestMove() asked behind a change", 0, asked.bestMove());
        asked.put(1, 1);
        asked.put(2, 0);
        CHECK.same("goodMoves() asked behind another one", 1, asked.goodMoves());
        HexArbiter many = Check.loaded("board 3; turn blue");
        CHECK.same("9 free cells: bestMove()", -1, many.bestMove());
        CHECK.same("9 free cells: goodMoves()", -1, many.goodMoves());
        HexArbiter joined = Check.loaded("board 9; blue a1 b1 c1 d1 e1 f1 g1 h1 i1");
        CHECK.same("joined: solved()", 1, joined.solved());
        CHECK.same("joined: goodMoves()", 0, joined.goodMoves());
        HexArbiter late = Check.loaded("board 2; red b1");
        late.giveUp();
        CHECK.same("given up with few free cells", 1, late.solved());
        CHECK.same("and no good moves", 0, late.goodMoves());
        CHECK.same("and no best one", -1, late.bestMove());
    }

    /** Promise 33; the boards for these numbers were written down and looked at. */
    private static void fillingOnce() {
        // rr/rb, rr/bb, rb/br, bb/rb, br/bb, bb/rr
        int[] starts = {0, 1, 2, 5, 77, Integer.MAX_VALUE};
        int[] due = {0, 1, 1, 1, 1, 1};
        HexArbiter arbiter = new HexArbiter();
        for (int index = 0; index < starts.length; index++) {
            CHECK.same("filled(" + starts[index] + ")", due[index], arbiter.filled(starts[index]));
        }
        CHECK.same("filled(0) changes nothing", "../..", Check.board(arbiter));
        // r and r go to the free cells alone
        CHECK.same("with stones", 0, Check.loaded("board 2; red a1; blue a2").filled(1));
        CHECK.same("with other stones", 1, Check.loaded("board 2; blue a1 b1").filled(1));
        arbiter.giveUp();
        CHECK.same("though the game is over", 0, arbiter.filled(0));
        HexArbiter full = Check.loaded("board 2; red b1 a2; blue a1 b2");
        CHECK.same("a full board", 0, full.filled(7));
        CHECK.same("a full board, often", 9, full.fillings(0, 7, 9));
        CHECK.same("a full board has no idle cells", 0, full.idle(7));
    }

    /** Promise 34: the fillings are rrb/bbb/rbr, rbb/rrb/bbb, brr/rbb/brb, brr/rbr/rbb, rbb/rrr/bbb. */
    private static void fillingOften() {
        HexArbiter arbiter = Check.loaded("board 3");
        int[] red = {0, 0, 0, 1, 1};
        for (int many = 1; many <= 5; many++) {
            CHECK.same("fillings(0, 1, " + many + ")", red[many - 1], arbiter.fillings(0, 1, many));
            CHECK.same("fillings(1, 1, " + many + ")", many - red[many - 1], arbiter.fillings(1, 1, many));
        }
        CHECK.same("from the least x", 1, new HexArbiter().fillings(0, 0, 1));
        CHECK.same("from the largest x", 1, new HexArbiter().fillings(1, Integer.MAX_VALUE, 1));
        int sum = arbiter.fillings(0, 123456789, 100) + arbiter.fillings(1, 123456789, 100);
        CHECK.same("both sides of 100", 100, sum);
        CHECK.same("the same once more", arbiter.fillings(0, 5, 100), arbiter.fillings(0, 5, 100));
    }

    /** Promise 35. */
    private static void idleCells() {
        HexArbiter arbiter = new HexArbiter();
        CHECK.same("idle(0) of rr/rb", 3, arbiter.idle(0));
        CHECK.same("idle(2) of rb/br", 2, arbiter.idle(2));
        CHECK.same("idle(1) of rr/bb", 2, arbiter.idle(1));
        HexArbiter three = Check.loaded("board 3");
        CHECK.same("idle(1) of rrb/bbb/rbr", 7, three.idle(1));
        CHECK.same("free cells of a joined side", 6, Check.loaded("board 3; red b1 b2 b3").idle(1));
        arbiter.giveUp();
        CHECK.same("though the game is over", 3, arbiter.idle(0));
    }

    private static void wrongInputs() {
        HexArbiter arbiter = new HexArbiter();
        for (int bad : new int[] {-1, Integer.MIN_VALUE}) {
            CHECK.illegal("filled(" + bad + ")", () -> arbiter.filled(bad));
            CHECK.illegal("fillings(0, " + bad + ", 1)", () -> arbiter.fillings(0, bad, 1));
            CHECK.illegal("idle(" + bad + ")", () -> arbiter.idle(bad));
        }
        for (int bad : new int[] {-1, 2, Integer.MAX_VALUE}) {
            CHECK.illegal("fillings(" + bad + ", 0, 1)", () -> arbiter.fillings(bad, 0, 1));
        }
        for (int bad : new int[] {-1, 0, 101, Integer.MIN_VALUE, Integer.MAX_VALUE}) {
            CHECK.illegal("fillings(0, 0, " + bad + ")", () -> arbiter.fillings(0, 0, bad));
        }
    }
}
