import java.util.ArrayList;
import java.util.List;

/**
 * The boundary cases of section 6 and of promises 36 to 45 and 50: a method for each sentence of the document,
 * which stands above it.
 */
public final class ActionBoundaryTest {
    private static final Check CHECK = new Check();
    private static final int[] FAR = {-1, Integer.MIN_VALUE, Integer.MAX_VALUE};
    // behind red's move c2 seven moves are forced, and then none is
    private static final String LADDER = "board 5; red c1 b3 a4; blue b2 e2 a3 c3 d3";

    public static void main(String[] args) {
        noSuchMove();
        atMost200Moves();
        moveReturnsTheWinner();
        moveOnACellThatIsNotFree();
        moveThoughTheGameIsOver();
        moveWrongAheadOfFull();
        moveOfNoCell();
        swapTakesTheOnlyStoneAway();
        swapWithoutSwap();
        swapNotJustOneMove();
        swapNotJustOneStone();
        swapNotTheStoneOfTheMove();
        swapThoughTheGameIsOver();
        giveUpReturnsTheWinner();
        giveUpThoughTheGameIsOver();
        putReturnsWhatWasThere();
        putThoughTheGameIsOver();
        putLeavesTheRest();
        putWithWrongArguments();
        setTurnReturnsWhoseItWas();
        setTurnOfNoSide();
        turnOverExchangesAll();
        turnOverTwice();
        playForcedAtMostSoMany();
        playForcedWithoutAForcedMove();
        playForcedUpTo200Moves();
        playForcedOutOfRange();
        forcedWinnerAndForcedRow();
        undoTheLatestOne();
        undoTheLatest8();
        undoWithoutAnAction();
        undoEachAction();
        undoAndActAgain();
        anActionThatChangesNothing();
        aRefusedCallIsNoAction();
        afterLoadAndRestoreNothingCanBeTakenBack();
        upToTheLastCall();
        CHECK.end("ActionBoundaryTest");
    }

    /** Promise 36: "NONE if there is no such move", "Returns its cell (of swap() that of the new stone)" */
    private static void noSuchMove() {
        CHECK.same("no move", -1, new HexArbiter().moveAt(0));
        HexArbiter arbiter = Check.loaded("board 3 swap; move c1");
        CHECK.same("one move", 2, arbiter.moveAt(0));
        CHECK.same("behind it", -1, arbiter.moveAt(1));
        arbiter.swap();
        CHECK.same("its cell stays", 2, arbiter.moveAt(0));
        CHECK.same("of swap()", 6, arbiter.moveAt(1));
        CHECK.same("behind swap()", -1, arbiter.moveAt(2));
        for (int index : FAR) {
            CHECK.same("moveAt(" + index + ")", -1, arbiter.moveAt(index));
        }
        arbiter.undo();
        CHECK.same("swap() taken back", -1, arbiter.moveAt(1));
    }

    /** Makes this many moves in a cell that is free again behind them. */
    private static void makeMoves(HexArbiter arbiter, int cell, int many) {
        for (int done = 0; done < many; done++) {
            arbiter.move(cell);
            arbiter.put(cell, -1);
        }
    }

    /** "At most 200 moves are kept.", promise 37: "FULL if there are 200 moves" */
    private static void atMost200Moves() {
        HexArbiter arbiter = new HexArbiter();
        makeMoves(arbiter, 2, 199);
        CHECK.same("199 moves", 199, arbiter.size(4));
        CHECK.same("the move 200", -1, arbiter.move(2));
        CHECK.same("200 moves", 200, arbiter.size(4));
        arbiter.put(2, -1);
        CHECK.same("the move 201", -2, arbiter.move(2));
        CHECK.same("in another cell", -2, arbiter.move(3));
        CHECK.same("200 moves still", 200, arbiter.size(4));
        CHECK.same("the last one", 2, arbiter.moveAt(199));
        CHECK.same("behind it", -1, arbiter.moveAt(200));
        CHECK.same("nothing changes", "../..", Check.board(arbiter));
        CHECK.same("nor the turn", 0, arbiter.size(5));
        CHECK.same("it is no action", 7, arbiter.undo());
        CHECK.same("the stone is back", "../b.", Check.board(arbiter));
        CHECK.same("and the move", 6, arbiter.undo());
        CHECK.same("199 moves again", 199, arbiter.size(4));
        CHECK.same("one is allowed again", -1, arbiter.move(3));
    }

    /** Promise 37: "Returns the winner then, NONE if the game is not over" */
    private static void moveReturnsTheWinner() {
        HexArbiter arbiter = new HexArbiter();
        CHECK.same("not over", -1, arbiter.move(0));
        CHECK.same("blue's turn", 1, arbiter.size(5));
        CHECK.same("not over", -1, arbiter.move(1));
        CHECK.same("red joins", 0, arbiter.move(2));
        CHECK.same("then it is blue's turn", 1, arbiter.size(5));
        HexArbiter blue = Check.loaded("board 2; blue a1; turn blue");
        CHECK.same("blue joins", 1, blue.move(1));
        CHECK.same("the last free cell", 0, Check.loaded("board 2; red b1; blue a1 b2").move(2));
    }

    /** Promise 37: "WRONG if the cell is not free" */
    private static void moveOnACellThatIsNotFree() {
        HexArbiter arbiter = Check.loaded("board 3; red a1; blue c3");
        CHECK.same("its own stone", -3, arbiter.move(0));
        CHECK.same("a stone of the other side", -3, arbiter.move(8));
        CHECK.same("no move", 0, arbiter.size(4));
        arbiter.put(8, -1);
        CHECK.same("free again", -1, arbiter.move(8));
        CHECK.same("a stone that was moved", -3, arbiter.move(8));
    }

    /** Promise 37: "or the game is over" */
    private static void moveThoughTheGameIsOver() {
        CHECK.same("joined", -3, Check.loaded("board 2; red a1 a2").move(1));
        CHECK.same("the other one has joined", -3, Check.loaded("board 2; red a1 a2; turn blue").move(1));
        HexArbiter arbiter = new HexArbiter();
        arbiter.giveUp();
        CHECK.same("given up", -3, arbiter.move(0));
        arbiter.setTurn(1);
        CHECK.same("the other one has given up", -3, arbiter.move(0));
        HexArbiter cut = Check.loaded("board 2; red a1 a2");
        cut.put(2, 1);
        CHECK.same("not over any more", -1, cut.move(3));
    }

    /** "of several errors the one that is named first is returned" */
    private static void moveWrongAheadOfFull() {
        HexArbiter arbiter = Check.loaded("board 2; red a1");
        makeMoves(arbiter, 3, 200);
        CHECK.same("200 moves", -2, arbiter.move(3));
        CHECK.same("200 moves, and the cell is not free", -3, arbiter.move(0));
        CHECK.outside("200 moves, and no such cell", () -> arbiter.move(4));
        arbiter.giveUp();
        CHECK.same("200 moves, and the game is over", -3, arbiter.move(3));
    }

    /** Promise 37: "IndexOutOfBoundsException if there is no such cell"; "exceptions come before errors" */
    private static void moveOfNoCell() {
        HexArbiter arbiter = new HexArbiter();
        CHECK.same("the last cell", -1, arbiter.move(3));
        CHECK.outside("move(4)", () -> arbiter.move(4));
        for (int cell : FAR) {
            CHECK.outside("move(" + cell + ")", () -> arbiter.move(cell));
        }
        arbiter.giveUp();
        CHECK.outside("though the game is over", () -> arbiter.move(4));
    }

    /** Promise 38: "with row and column exchanged ...; then it is the turn of the side whose stone was taken away" */
    private static void swapTakesTheOnlyStoneAway() {
        for (int size = 2; size <= 9; size += 7) {
            for (int cell = 0; cell < size * size; cell++) {
                HexArbiter arbiter = Check.loaded("board " + size + " swap");
                arbiter.setTurn(cell % 2);
                arbiter.move(cell);
                int twin = cell % size * size + cell / size;
                CHECK.same("swap() of " + cell, twin, arbiter.swap());
                CHECK.same("the new stone", 1 - cell % 2, arbiter.cell(twin));
                CHECK.same("the turn", cell % 2, arbiter.size(5));
                CHECK.same("one stone", size * size - 1, arbiter.size(3));
                CHECK.same("its move", twin, arbiter.moveAt(1));
            }
        }
    }

    private static void swapIsWrong(String name, HexArbiter arbiter) {
        String before = Check.seen(arbiter);
        CHECK.same(name, -3, arbiter.swap());
        CHECK.same(name + ": size(7)", 0, arbiter.size(7));
        CHECK.same(name + ": nothing changes", before, Check.seen(arbiter));
    }

    /** Promise 38: "WRONG if the board has no swap" */
    private static void swapWithoutSwap() {
        swapIsWrong("no swap", Check.loaded("board 2; move a1"));
        HexArbiter arbiter = Check.loaded("board 2 swap; move a1");
        Check.load(arbiter, "board 2; move a1");
        swapIsWrong("a board with swap was there before", arbiter);
        HexArbiter fresh = new HexArbiter();
        fresh.move(0);
        swapIsWrong("a new object", fresh);
    }

    /** Promise 38: "there was not just one move" */
    private static void swapNotJustOneMove() {
        swapIsWrong("none", Check.loaded("board 2 swap"));
        swapIsWrong("none, but a stone", Check.loaded("board 2 swap; red a1; turn blue"));
        swapIsWrong("two", Check.loaded("board 2 swap; move a1 b1"));
        HexArbiter two = Check.loaded("board 3 swap; move a1 b1");
        two.put(0, -1);
        swapIsWrong("two, but one stone", two);
        HexArbiter three = Check.loaded("board 3 swap; move b1");
        three.swap();
        swapIsWrong("swap() itself counts", three);
        three.undo();
        CHECK.same("one again", 3, three.swap());
    }

    /** Promise 38: "the board has not just one stone" */
    private static void swapNotJustOneStone() {
        swapIsWrong("a second one of red", Check.loaded("board 3 swap; red c3; move a1"));
        swapIsWrong("a second one of blue", Check.loaded("board 3 swap; move a1; blue c3"));
        HexArbiter arbiter = Check.loaded("board 3 swap; move a1");
        arbiter.put(8, 1);
        swapIsWrong("a second one that was put", arbiter);
        arbiter.put(8, -1);
        arbiter.put(0, -1);
        swapIsWrong("none", arbiter);
        arbiter.put(0, 0);
        CHECK.same("one again", 0, arbiter.swap());
    }

    /** Promise 38: "that of the move (of the side whose turn it is not)" */
    private static void swapNotTheStoneOfTheMove() {
        HexArbiter arbiter = Check.loaded("board 3 swap; move b1");
        arbiter.put(1, -1);
        arbiter.put(2, 0);
        swapIsWrong("the stone is in another cell", arbiter);
        arbiter.put(2, -1);
        arbiter.put(1, 1);
        swapIsWrong("it is of the side whose turn it is", arbiter);
        arbiter.setTurn(0);
        CHECK.same("it is of the side whose turn it is not", 3, arbiter.swap());
        HexArbiter turned = Check.loaded("board 3 swap; move b1");
        turned.setTurn(0);
        swapIsWrong("the turn of the side that moved", turned);
        turned.setTurn(1);
        CHECK.same("the turn of the other side", 3, turned.swap());
        HexArbiter over = Check.loaded("board 3 swap; move b1");
        over.turnOver();
        CHECK.same("turned over", 1, over.swap());
    }

    /** Promise 38: "or the game is over" */
    private static void swapThoughTheGameIsOver() {
        HexArbiter arbiter = Check.loaded("board 3 swap; move b1");
        arbiter.giveUp();
        swapIsWrong("given up", arbiter);
        arbiter.undo();
        CHECK.same("taken back", 3, arbiter.swap());
    }

    /** Promise 39: "Returns the winner" */
    private static void giveUpReturnsTheWinner() {
        HexArbiter red = new HexArbiter();
        CHECK.same("red gives up", 1, red.giveUp());
        CHECK.sizes("red gives up", red, 2, 0, 0, 4, 0, 0, 1, 0, 0, 1);
        HexArbiter blue = Check.loaded("board 2; turn blue");
        CHECK.same("blue gives up", 0, blue.giveUp());
        CHECK.sizes("blue gives up", blue, 2, 0, 0, 4, 0, 1, 0, 0, 1, 1);
    }

    /** Promise 39: "WRONG if the game is over" */
    private static void giveUpThoughTheGameIsOver() {
        CHECK.same("joined", -3, Check.loaded("board 2; red a1 a2").giveUp());
        CHECK.same("the other one has joined", -3, Check.loaded("board 2; red a1 a2; turn blue").giveUp());
        HexArbiter arbiter = new HexArbiter();
        arbiter.giveUp();
        CHECK.same("once more", -3, arbiter.giveUp());
        arbiter.setTurn(1);
        CHECK.same("the other one", -3, arbiter.giveUp());
        CHECK.same("red it is still", 0, arbiter.size(8));
        CHECK.same("two actions", 2, arbiter.size(9));
    }

    /** Promise 40: "Returns what was there.", "side: 0 red, 1 blue, or NONE: free" */
    private static void putReturnsWhatWasThere() {
        HexArbiter arbiter = new HexArbiter();
        int there = -1;
        for (int side : new int[] {-1, 0, 0, 1, 1, -1, 1, 0, -1}) {
            CHECK.same("put(3, " + side + ")", there, arbiter.put(3, side));
            CHECK.same("it is there", side, arbiter.cell(3));
            there = side;
        }
    }

    /** Promise 40: "also if the game is over" */
    private static void putThoughTheGameIsOver() {
        HexArbiter arbiter = Check.loaded("board 2; red a1 a2");
        CHECK.same("joined", -1, arbiter.put(3, 1));
        CHECK.same("its stone", 0, arbiter.put(0, 1));
        CHECK.same("not over any more", -1, arbiter.size(6));
        arbiter.giveUp();
        CHECK.same("given up", 1, arbiter.put(0, -1));
        CHECK.same("given up still", 1, arbiter.size(6));
    }

    /** Promise 40: "the moves, the turn and who has given up stay" */
    private static void putLeavesTheRest() {
        HexArbiter arbiter = Check.loaded("board 3; move a1 b1");
        arbiter.giveUp();
        arbiter.put(0, -1);
        arbiter.put(1, 0);
        arbiter.put(8, 1);
        CHECK.sizes("behind put()", arbiter, 3, 1, 1, 7, 2, 0, 1, 0, 0, 4);
        CHECK.same("the first move", 0, arbiter.moveAt(0));
        CHECK.same("the second move", 1, arbiter.moveAt(1));
    }

    /** Promise 40: "IndexOutOfBoundsException if there is no such cell", "IllegalArgumentException if side ..." */
    private static void putWithWrongArguments() {
        HexArbiter arbiter = new HexArbiter();
        CHECK.same("NONE is in the range", -1, arbiter.put(3, -1));
        CHECK.outside("put(4, 0)", () -> arbiter.put(4, 0));
        CHECK.illegal("put(3, 2)", () -> arbiter.put(3, 2));
        CHECK.illegal("put(3, -2)", () -> arbiter.put(3, -2));
        CHECK.outside("put(4, 2), both", () -> arbiter.put(4, 2));
        CHECK.outside("put(4, -2), both", () -> arbiter.put(4, -2));
        CHECK.illegal("put(0, MIN)", () -> arbiter.put(0, Integer.MIN_VALUE));
        CHECK.illegal("put(0, MAX)", () -> arbiter.put(0, Integer.MAX_VALUE));
        for (int cell : FAR) {
            CHECK.outside("put(" + cell + ", 0)", () -> arbiter.put(cell, 0));
        }
        CHECK.same("one action", 1, arbiter.size(9));
    }

    /** Promise 41: "Returns whose it was." */
    private static void setTurnReturnsWhoseItWas() {
        HexArbiter arbiter = new HexArbiter();
        CHECK.same("red's stays", 0, arbiter.setTurn(0));
        CHECK.same("red's becomes blue's", 0, arbiter.setTurn(1));
        CHECK.same("blue's stays", 1, arbiter.setTurn(1));
        CHECK.same("blue's becomes red's", 1, arbiter.setTurn(0));
        CHECK.same("four actions", 4, arbiter.size(9));
        arbiter.giveUp();
        CHECK.same("though the game is over", 0, arbiter.setTurn(1));
        CHECK.same("who has given up stays", 0, arbiter.size(8));
    }

    /** Promise 41: "IllegalArgumentException if side is out of range" */
    private static void setTurnOfNoSide() {
        HexArbiter arbiter = new HexArbiter();
        CHECK.illegal("setTurn(2)", () -> arbiter.setTurn(2));
        for (int side : FAR) {
            CHECK.illegal("setTurn(" + side + ")", () -> arbiter.setTurn(side));
        }
        CHECK.same("no action", 0, arbiter.size(9));
    }

    /** Promise 42: "rows and columns are exchanged, and so are the sides of all stones, the turn and who ..." */
    private static void turnOverExchangesAll() {
        HexArbiter empty = new HexArbiter();
        CHECK.same("an empty board", 2, empty.turnOver());
        CHECK.sizes("an empty board", empty, 2, 0, 0, 4, 0, 1, -1, 0, -1, 1);
        HexArbiter full = Check.loaded("board 2; red a1 b1; blue a2 b2");
        full.turnOver();
        CHECK.same("a full board", "br/br", Check.board(full));
        HexArbiter over = Check.loaded("board 2; red a1 a2; turn blue");
        CHECK.same("joined", 2, over.turnOver());
        CHECK.same("blue has joined", 1, over.size(6));
        CHECK.same("red's turn", 0, over.size(5));
        HexArbiter given = Check.loaded("board 9; move i1 h9");
        given.giveUp();
        CHECK.same("given up", 9, given.turnOver());
        CHECK.sizes("given up", given, 9, 1, 1, 79, 2, 1, 0, 0, 1, 2);
        CHECK.same("the last cell of the first row", 1, given.cell(72));
        CHECK.same("a cell of the last row", 0, given.cell(71));
        CHECK.same("the cells of the moves", 72, given.moveAt(0));
        CHECK.same("the cells of the moves", 71, given.moveAt(1));
        CHECK.same("no more of them", -1, given.moveAt(2));
    }

    /** Promise 42, twice: all is as it was but the actions */
    private static void turnOverTwice() {
        HexArbiter once = Check.loaded("board 3 swap; red c3; blue a2; move b1 a3 c1");
        once.giveUp();
        String before = Check.seen(once);
        once.turnOver();
        CHECK.isTrue("once", !before.equals(Check.seen(once)));
        once.turnOver();
        CHECK.same("two actions more", 3, once.size(9));
        once.undo();
        CHECK.isTrue("one taken back", !before.equals(Check.seen(once)));
        once.undo();
        CHECK.same("both taken back", before, Check.seen(once));
    }

    /** Promise 43: "most: 1 to 81: at most so many" */
    private static void playForcedAtMostSoMany() {
        int[] cells = {7, 20, 16, 21, 17, 22, 18, 23};
        for (int most : new int[] {1, 2, 6, 7, 8, 80, 81}) {
            HexArbiter arbiter = Check.loaded(LADDER + "; move c2");
            int due = Math.min(most, 7);
            CHECK.same("playForced(" + most + ")", due, arbiter.playForced(most));
            CHECK.same("the moves", 1 + due, arbiter.size(4));
            CHECK.same("the latest one", cells[due], arbiter.moveAt(due));
            CHECK.same("one action", 1, arbiter.size(9));
            CHECK.same("taken back", 0, arbiter.undo());
            CHECK.same("the moves", 1, arbiter.size(4));
        }
    }

    /** Promise 43: "as long as the game is not over, forced() tells a cell" */
    private static void playForcedWithoutAForcedMove() {
        HexArbiter nothing = new HexArbiter();
        CHECK.same("nothing is forced", 0, nothing.playForced(81));
        CHECK.same("an action", 1, nothing.size(9));
        HexArbiter over = Check.loaded("board 2; red a1 a2; turn blue");
        CHECK.same("joined", 0, over.playForced(81));
        CHECK.same("an action", 1, over.size(9));
        HexArbiter given = Check.loaded("board 2; red a1");
        given.giveUp();
        CHECK.same("given up", 0, given.playForced(1));
        CHECK.same("until the game is over", 1, Check.loaded("board 2; red b1").playForced(81));
        CHECK.same("several threats of the other side", 0, Check.loaded("board 3; red b1 b2; turn blue").playForced(9));
    }

    /** Promise 43: "and there are fewer than 200 moves" */
    private static void playForcedUpTo200Moves() {
        for (int left = 0; left <= 3; left++) {
            HexArbiter arbiter = Check.loaded(LADDER);
            makeMoves(arbiter, 4, 199 - left);
            arbiter.setTurn(0);
            arbiter.move(7);
            CHECK.same("forced() tells a cell", 20, arbiter.forced());
            CHECK.same(left + " are left: forcedRow()", left, arbiter.forcedRow());
            CHECK.same(left + " are left: forcedWinner()", -1, arbiter.forcedWinner());
            CHECK.same(left + " are left: playForced(81)", left, arbiter.playForced(81));
            CHECK.same("200 moves", 200, arbiter.size(4));
            CHECK.same("no more", 0, arbiter.playForced(81));
        }
    }

    /** Promise 43: "IllegalArgumentException if most is out of range" */
    private static void playForcedOutOfRange() {
        HexArbiter arbiter = Check.loaded("board 2; red b1");
        for (int most : new int[] {0, -1, 82, Integer.MIN_VALUE, Integer.MAX_VALUE}) {
            CHECK.illegal("playForced(" + most + ")", () -> arbiter.playForced(most));
        }
        CHECK.same("no action", 0, arbiter.size(9));
        CHECK.same("the least one", 1, arbiter.playForced(1));
        CHECK.same("the largest one", 0, arbiter.playForced(81));
    }

    /** Promises 44 and 45: "Returns the winner; NONE if the game is not over then", "Counts the forced moves" */
    private static void forcedWinnerAndForcedRow() {
        predictionsAre("nothing is forced", new HexArbiter(), -1, 0);
        predictionsAre("red joins", Check.loaded("board 2; red b1"), 0, 1);
        predictionsAre("blue joins", Check.loaded("board 2; blue b1; turn blue"), 1, 1);
        predictionsAre("joined", Check.loaded("board 2; red a1 a2"), 0, 0);
        predictionsAre("not over behind seven", Check.loaded(LADDER + "; move c2"), -1, 7);
        HexArbiter given = Check.loaded("board 2; red b1");
        given.giveUp();
        predictionsAre("given up", given, 1, 0);
    }

    private static void predictionsAre(String name, HexArbiter arbiter, int winner, int moves) {
        String before = Check.seen(arbiter);
        CHECK.same(name + ": forcedWinner()", winner, arbiter.forcedWinner());
        CHECK.same(name + ": forcedRow()", moves, arbiter.forcedRow());
        CHECK.same(name + ": nothing changes", before, Check.seen(arbiter));
    }

    /** Promise 50: "Takes the latest action back ... Returns how many can be taken back then" */
    private static void undoTheLatestOne() {
        HexArbiter arbiter = new HexArbiter();
        arbiter.put(0, 0);
        arbiter.put(1, 1);
        arbiter.put(2, 0);
        CHECK.same("the third", 2, arbiter.undo());
        CHECK.same("the third", "rb/..", Check.board(arbiter));
        CHECK.same("the second", 1, arbiter.undo());
        CHECK.same("the second", "r./..", Check.board(arbiter));
        arbiter.writeCell(0);
        CHECK.same("the first", 0, arbiter.undo());
        CHECK.same("the first", "../..", Check.board(arbiter));
        CHECK.same("the output stays", "a1", Check.output(arbiter));
    }

    /** "the latest 8 of them" */
    private static void undoTheLatest8() {
        for (int many : new int[] {7, 8, 9, 16, 17, 40}) {
            HexArbiter arbiter = Check.loaded("board 9");
            for (int cell = 0; cell < many; cell++) {
                arbiter.put(cell, 0);
                CHECK.same("can be taken back", Math.min(8, cell + 1), arbiter.size(9));
            }
            for (int left = Math.min(8, many) - 1; left >= 0; left--) {
                CHECK.same(many + " actions: undo()", left, arbiter.undo());
            }
            CHECK.same(many + " actions: no more", -1, arbiter.undo());
            CHECK.same(many + " actions: those that stay", Math.max(0, many - 8), arbiter.size(1));
        }
    }

    /** Promise 50: "NONE, and nothing changes, if there is none" */
    private static void undoWithoutAnAction() {
        CHECK.same("a new object", -1, new HexArbiter().undo());
        HexArbiter arbiter = Check.loaded("board 3; red a1; move b1");
        String before = Check.seen(arbiter);
        CHECK.same("moves of a text", -1, arbiter.undo());
        CHECK.same("nothing changes", before, Check.seen(arbiter));
        arbiter.put(8, 1);
        arbiter.undo();
        CHECK.same("all are taken back", -1, arbiter.undo());
        CHECK.same("nothing changes", before, Check.seen(arbiter));
    }

    /** "The methods that are called actions can be taken back" */
    private static void undoEachAction() {
        for (int kind = 0; kind < 7; kind++) {
            HexArbiter arbiter = Check.loaded("board 3 swap; move b1");
            String before = Check.seen(arbiter);
            act(arbiter, kind);
            CHECK.same("kind " + kind + ": it counts", 1, arbiter.size(9));
            CHECK.same("kind " + kind + ": undo()", 0, arbiter.undo());
            CHECK.same("kind " + kind + ": as it was", before, Check.seen(arbiter));
        }
    }

    private static int act(HexArbiter arbiter, int kind) {
        switch (kind) {
            case 0: return arbiter.move(8);
            case 1: return arbiter.swap();
            case 2: return arbiter.giveUp();
            case 3: return arbiter.put(1, 1);
            case 4: return arbiter.setTurn(0);
            case 5: return arbiter.turnOver();
            default: return arbiter.playForced(81);
        }
    }

    /** Actions and undo() in turn, many times round: the 8 that are kept go round in their place. */
    private static void undoAndActAgain() {
        HexArbiter arbiter = new HexArbiter();
        List<String> boards = new ArrayList<>();
        for (int done = 0; done < 35; done++) {
            boards.add(Check.board(arbiter));
            if (boards.size() > 8) {
                boards.remove(0);
            }
            arbiter.put(done * 7 % 4, done % 3 - 1);
            CHECK.same("actions", boards.size(), arbiter.size(9));
            for (int back = 0; back < (done % 5 == 4 ? 4 : 0) && !boards.isEmpty(); back++) {
                CHECK.same("undo", boards.size() - 1, arbiter.undo());
                CHECK.same("the board", boards.remove(boards.size() - 1), Check.board(arbiter));
            }
        }
        while (!boards.isEmpty()) {
            CHECK.same("undo", boards.size() - 1, arbiter.undo());
            CHECK.same("the board", boards.remove(boards.size() - 1), Check.board(arbiter));
        }
        CHECK.same("no more", -1, arbiter.undo());
    }

    /** "An action counts also if it changes nothing." */
    private static void anActionThatChangesNothing() {
        HexArbiter arbiter = Check.loaded("board 3; red a1");
        String board = Check.board(arbiter);
        arbiter.put(0, 0);
        CHECK.same("the same stone", 1, arbiter.size(9));
        arbiter.put(1, -1);
        CHECK.same("a free cell", 2, arbiter.size(9));
        arbiter.setTurn(0);
        CHECK.same("the same turn", 3, arbiter.size(9));
        arbiter.playForced(5);
        CHECK.same("no forced move", 4, arbiter.size(9));
        CHECK.same("nothing changed", board, Check.board(arbiter));
        CHECK.same("undo()", 3, arbiter.undo());
    }

    /** "that did not return WRONG or FULL"; a call that throws an exception is none either */
    private static void aRefusedCallIsNoAction() {
        HexArbiter arbiter = Check.loaded("board 2; red a1");
        arbiter.setTurn(1);
        CHECK.same("WRONG", -3, arbiter.move(0));
        CHECK.same("WRONG", -3, arbiter.swap());
        CHECK.outside("an exception", () -> arbiter.move(4));
        CHECK.illegal("an exception", () -> arbiter.put(0, 2));
        CHECK.illegal("an exception", () -> arbiter.setTurn(2));
        CHECK.illegal("an exception", () -> arbiter.playForced(0));
        CHECK.same("one action", 1, arbiter.size(9));
        arbiter.giveUp();
        CHECK.same("WRONG", -3, arbiter.giveUp());
        CHECK.same("two actions", 2, arbiter.size(9));
        arbiter.undo();
        CHECK.same("giveUp() is taken back", -1, arbiter.size(8));
    }

    /** Promises 3 and 52: "nothing can be taken back" */
    private static void afterLoadAndRestoreNothingCanBeTakenBack() {
        HexArbiter arbiter = new HexArbiter();
        arbiter.put(0, 0);
        arbiter.saveSnapshot(0);
        CHECK.same("saved", 1, arbiter.size(9));
        arbiter.restoreSnapshot(0);
        CHECK.same("restored", 0, arbiter.size(9));
        CHECK.same("restored", -1, arbiter.undo());
        arbiter.put(1, 0);
        CHECK.same("an error", -100, Check.load(arbiter, "x"));
        CHECK.same("an error", 1, arbiter.size(9));
        Check.load(arbiter, "board 2");
        CHECK.same("loaded", 0, arbiter.size(9));
        CHECK.same("loaded", -1, arbiter.undo());
    }

    /** "An object is used for at most 512 calls": the last of them is answered as the first one */
    private static void upToTheLastCall() {
        HexArbiter arbiter = new HexArbiter();
        for (int call = 0; call < 255; call++) {
            arbiter.put(0, call % 2);
            arbiter.undo();
        }
        CHECK.same("the call 511", -1, arbiter.put(0, 1));
        CHECK.same("the call 512", 1, arbiter.cell(0));
    }
}
