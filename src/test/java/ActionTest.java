/** Promises 36 to 45 and 50: moves and other actions, and how they are taken back. */
public final class ActionTest {
    private static final Check CHECK = new Check();

    public static void main(String[] args) {
        movesAt();
        moves();
        mostMoves();
        swaps();
        swapsThatAreWrong();
        givingUp();
        puts();
        turns();
        turningOver();
        forcedRows();
        undoing();
        undoingEachKind();
        whatIsNoAction();
        CHECK.end("ActionTest");
    }

    /** Promise 36. */
    private static void movesAt() {
        HexArbiter arbiter = Check.loaded("board 4 swap; move c1");
        arbiter.swap();
        arbiter.move(15);
        int[] due = {2, 8, 15};
        for (int index = 0; index < due.length; index++) {
            CHECK.same("moveAt(" + index + ")", due[index], arbiter.moveAt(index));
        }
        for (int index : new int[] {3, -1, 199, 200, Integer.MIN_VALUE, Integer.MAX_VALUE}) {
            CHECK.same("moveAt(" + index + ")", -1, arbiter.moveAt(index));
        }
        arbiter.undo();
        CHECK.same("moveAt(2) taken back", -1, arbiter.moveAt(2));
        CHECK.same("of a new object", -1, new HexArbiter().moveAt(0));
    }

    /** Promise 37. */
    private static void moves() {
        HexArbiter arbiter = Check.loaded("board 3; blue c3");
        CHECK.same("move(1)", -1, arbiter.move(1));
        CHECK.same("the turn", 1, arbiter.size(5));
        CHECK.same("on the same cell", -3, arbiter.move(1));
        CHECK.same("on a stone of the text", -3, arbiter.move(8));
        CHECK.same("the turn stays", 1, arbiter.size(5));
        CHECK.same("the moves stay", 1, arbiter.size(4));
        CHECK.same("blue's move", -1, arbiter.move(0));
        CHECK.same("red's move", -1, arbiter.move(4));
        CHECK.same("blue's move", -1, arbiter.move(3));
        CHECK.same("red joins", 0, arbiter.move(7));
        CHECK.same("the board", "br./br./.rb", Check.board(arbiter));
        CHECK.same("the game is over", -3, arbiter.move(2));
        CHECK.same("moves", 5, arbiter.size(4));
        CHECK.same("blue joins", 1, Check.loaded("board 2; turn blue; move b1 a1").move(2));
        for (int cell : new int[] {-1, 9, Integer.MIN_VALUE, Integer.MAX_VALUE}) {
            CHECK.outside("move(" + cell + ")", () -> arbiter.move(cell));
        }
        HexArbiter given = Check.loaded("board 3");
        given.giveUp();
        CHECK.same("behind giving up", -3, given.move(0));
    }

    private static void mostMoves() {
        HexArbiter arbiter = Check.loaded("board 3; red a1 a2");
        CHECK.same("a forced move", 6, arbiter.forced());
        for (int done = 0; done < 200; done++) {
            CHECK.same("move " + done, -1, arbiter.move(8));
            arbiter.put(8, -1);
        }
        CHECK.same("200 moves", 200, arbiter.size(4));
        CHECK.same("the last move", 8, arbiter.moveAt(199));
        CHECK.same("behind it", -1, arbiter.moveAt(200));
        CHECK.same("one more", -2, arbiter.move(8));
        CHECK.same("one more that is wrong", -3, arbiter.move(0));
        CHECK.same("nothing has changed", "r../r../...", Check.board(arbiter));
        CHECK.same("nor the turn", 0, arbiter.size(5));
        CHECK.same("nor the actions", 8, arbiter.size(9));
        CHECK.same("it would be forced", 6, arbiter.forced());
        CHECK.same("forcedRow()", 0, arbiter.forcedRow());
        CHECK.same("forcedWinner()", -1, arbiter.forcedWinner());
        CHECK.same("playForced(81)", 0, arbiter.playForced(81));
        CHECK.same("undo", 7, arbiter.undo());
        arbiter.undo();
        arbiter.undo();
        CHECK.same("199 moves", 199, arbiter.size(4));
        arbiter.setTurn(0);
        CHECK.same("playForced(81) just up to it", 1, arbiter.playForced(81));
        CHECK.same("200 moves again", 200, arbiter.size(4));
        CHECK.same("red has joined", 0, arbiter.size(6));
    }

    /** Promise 38. */
    private static void swaps() {
        HexArbiter arbiter = Check.loaded("board 4 swap");
        CHECK.same("without a move", -3, arbiter.swap());
        arbiter.move(7);
        CHECK.same("swap()", 13, arbiter.swap());
        CHECK.same("the board", "..../..../..../.b..", Check.board(arbiter));
        CHECK.same("the turn", 0, arbiter.size(5));
        CHECK.same("the moves", 2, arbiter.size(4));
        CHECK.same("its cell", 13, arbiter.moveAt(1));
        CHECK.same("once more", -3, arbiter.swap());
        CHECK.same("undo", 1, arbiter.undo());
        CHECK.same("the board", "..../...r/..../....", Check.board(arbiter));
        HexArbiter diagonal = Check.loaded("board 4 swap; move b2");
        CHECK.same("on the diagonal", 5, diagonal.swap());
        CHECK.same("on the diagonal", "..../.b../..../....", Check.board(diagonal));
        HexArbiter blue = Check.loaded("board 4 swap; turn blue; move a4");
        CHECK.same("of blue", 3, blue.swap());
        CHECK.same("of blue", "...r/..../..../....", Check.board(blue));
        CHECK.same("then it is blue's turn", 1, blue.size(5));
    }

    private static void swapsThatAreWrong() {
        swapIsWrong("a board without swap", Check.loaded("board 4; move b1"));
        swapIsWrong("two moves", Check.loaded("board 4 swap; move b1 c1"));
        swapIsWrong("no move", Check.loaded("board 4 swap; red b1; turn blue"));
        swapIsWrong("two stones", Check.loaded("board 4 swap; red d4; move b1"));
        HexArbiter gone = Check.loaded("board 4 swap; move b1");
        gone.put(1, -1);
        swapIsWrong("the stone is gone", gone);
        gone.put(2, 0);
        swapIsWrong("the stone is elsewhere", gone);
        gone.put(2, -1);
        gone.put(1, 1);
        swapIsWrong("the stone is of the side whose turn it is", gone);
        gone.setTurn(0);
        CHECK.same("the stone is of the other side", 4, gone.swap());
        HexArbiter turned = Check.loaded("board 4 swap; move b1");
        turned.setTurn(0);
        swapIsWrong("the other one's turn", turned);
        HexArbiter over = Check.loaded("board 4 swap; move b1");
        over.giveUp();
        swapIsWrong("the game is over", over);
    }

    private static void swapIsWrong(String name, HexArbiter arbiter) {
        String board = Check.board(arbiter);
        int actions = arbiter.size(9);
        CHECK.same(name + ": size(7)", 0, arbiter.size(7));
        CHECK.same(name + ": swap()", -3, arbiter.swap());
        CHECK.same(name + ": board", board, Check.board(arbiter));
        CHECK.same(name + ": actions", actions, arbiter.size(9));
    }

    /** Promise 39. */
    private static void givingUp() {
        HexArbiter arbiter = Check.loaded("board 3; red a1");
        CHECK.same("red gives up", 1, arbiter.giveUp());
        CHECK.same("who", 0, arbiter.size(8));
        CHECK.same("the turn stays", 0, arbiter.size(5));
        CHECK.same("once more", -3, arbiter.giveUp());
        arbiter.undo();
        CHECK.same("taken back", -1, arbiter.size(8));
        arbiter.setTurn(1);
        CHECK.same("blue gives up", 0, arbiter.giveUp());
        CHECK.same("who", 1, arbiter.size(8));
        HexArbiter joined = Check.loaded("board 2; red a1 a2; turn blue");
        CHECK.same("the game is over", -3, joined.giveUp());
        CHECK.same("nobody gave up", -1, joined.size(8));
    }

    /** Promise 40. */
    private static void puts() {
        HexArbiter arbiter = Check.loaded("board 3; red b1 b2; move c3");
        CHECK.same("on a free cell", -1, arbiter.put(7, 0));
        CHECK.same("the game is over then", 0, arbiter.size(6));
        CHECK.same("in place of red", 0, arbiter.put(7, 1));
        CHECK.same("in place of blue", 1, arbiter.put(7, -1));
        CHECK.same("of a free cell", -1, arbiter.put(7, -1));
        CHECK.same("it counts though it changes nothing", 4, arbiter.size(9));
        CHECK.same("a move is taken away", 0, arbiter.put(8, -1));
        CHECK.same("the moves stay", 8, arbiter.moveAt(0));
        CHECK.same("the turn stays", 1, arbiter.size(5));
        arbiter.giveUp();
        arbiter.put(0, 1);
        CHECK.same("who has given up stays", 1, arbiter.size(8));
        CHECK.same("the board", "br./.r./...", Check.board(arbiter));
        for (int side : new int[] {-2, 2, Integer.MIN_VALUE, Integer.MAX_VALUE}) {
            CHECK.illegal("put(0, " + side + ")", () -> arbiter.put(0, side));
            CHECK.outside("put(9, " + side + ")", () -> arbiter.put(9, side));
        }
        CHECK.outside("put(-1, 0)", () -> arbiter.put(-1, 0));
        CHECK.same("the actions", 7, arbiter.size(9));
    }

    /** Promise 41. */
    private static void turns() {
        HexArbiter arbiter = Check.loaded("board 3");
        CHECK.same("setTurn(1)", 0, arbiter.setTurn(1));
        CHECK.same("setTurn(1) again", 1, arbiter.setTurn(1));
        CHECK.same("the turn", 1, arbiter.size(5));
        CHECK.same("the actions", 2, arbiter.size(9));
        arbiter.giveUp();
        CHECK.same("though the game is over", 1, arbiter.setTurn(0));
        CHECK.same("undo", 3, arbiter.undo());
        CHECK.same("the turn", 1, arbiter.size(5));
        for (int side : new int[] {-1, 2, Integer.MIN_VALUE, Integer.MAX_VALUE}) {
            CHECK.illegal("setTurn(" + side + ")", () -> arbiter.setTurn(side));
        }
    }

    /** Promise 42. */
    private static void turningOver() {
        HexArbiter arbiter = Check.loaded("board 3 swap; red b1; blue c3; move a2 c1");
        arbiter.giveUp();
        CHECK.same("turnOver()", 3, arbiter.turnOver());
        CHECK.same("the board", ".b./b../r.r", Check.board(arbiter));
        CHECK.same("the turn", 1, arbiter.size(5));
        CHECK.same("who has given up", 1, arbiter.size(8));
        CHECK.same("the winner", 0, arbiter.size(6));
        CHECK.same("the first move", 1, arbiter.moveAt(0));
        CHECK.same("the second move", 6, arbiter.moveAt(1));
        CHECK.same("no third move", -1, arbiter.moveAt(2));
        arbiter.turnOver();
        CHECK.same("twice", ".rb/r../..b", Check.board(arbiter));
        CHECK.same("undo", 2, arbiter.undo());
        CHECK.same("undo", 1, arbiter.undo());
        CHECK.same("taken back", ".rb/r../..b", Check.board(arbiter));
        CHECK.same("the moves too", 3, arbiter.moveAt(0));
        CHECK.same("the turn too", 0, arbiter.size(5));
        HexArbiter corners = Check.loaded("board 3; red a1 b2; blue c3 c1");
        corners.turnOver();
        CHECK.same("cells that stay", "b../.b./r.r", Check.board(corners));
        CHECK.same("nobody has given up", -1, corners.size(8));
        HexArbiter swapping = Check.loaded("board 4 swap; move b1");
        swapping.turnOver();
        CHECK.same("swap() is allowed still", 1, swapping.swap());
    }

    /** Promises 43 to 45. */
    private static void forcedRows() {
        // blue has gone into the bridge to the edge 1; behind the answer blue has nothing forced
        HexArbiter arbiter = Check.loaded("board 4; red b3; turn blue; move b4");
        CHECK.same("forcedRow()", 1, arbiter.forcedRow());
        CHECK.same("forcedWinner()", -1, arbiter.forcedWinner());
        CHECK.same("predictions change nothing", 1, arbiter.size(4));
        CHECK.same("playForced(81)", 1, arbiter.playForced(81));
        CHECK.same("moved", 12, arbiter.moveAt(1));
        CHECK.same("once more", 0, arbiter.playForced(81));
        CHECK.same("it is an action nevertheless", 2, arbiter.size(9));
        HexArbiter won = Check.loaded("board 3; red a1 a2");
        CHECK.same("red joins", 0, won.forcedWinner());
        CHECK.same("in one move", 1, won.forcedRow());
        CHECK.same("still not over", -1, won.size(6));
        CHECK.same("playForced(1)", 1, won.playForced(1));
        CHECK.same("over now", 0, won.size(6));
        CHECK.same("over before", 0, won.forcedRow());
        CHECK.same("the winner stays", 0, won.forcedWinner());
        CHECK.same("no more moves", 0, won.playForced(5));
        HexArbiter taken = Check.loaded("board 3; red a1 a2; turn blue");
        CHECK.same("blue takes it", 1, taken.playForced(81));
        CHECK.same("blue took it", 1, taken.cell(6));
        HexArbiter several = Check.loaded("board 3; red b1 b2; turn blue; move b3");
        CHECK.same("red's row", 1, several.forcedRow());
        CHECK.same("red wins by it", 0, several.forcedWinner());
        longRow();
        for (int most : new int[] {0, -1, 82, Integer.MIN_VALUE, Integer.MAX_VALUE}) {
            CHECK.illegal("playForced(" + most + ")", () -> several.playForced(most));
        }
        CHECK.same("no action", 0, several.size(9));
    }

    /** A ladder: blue has to block below each time, and red to cut blue off above it. */
    private static void longRow() {
        String text = "board 5; red c1 b3 a4; blue b2 e2 a3 c3 d3; move c2";
        rowIs(text, 81, -1, "..r../.br.b/brbb./rrrr./bbbb.", 7, 20, 16, 21, 17, 22, 18, 23);
        rowIs(text, 7, -1, "..r../.br.b/brbb./rrrr./bbbb.", 7, 20, 16, 21, 17, 22, 18, 23);
        rowIs(text, 3, -1, "..r../.br.b/brbb./rr.../bb...", 7, 20, 16, 21);
        // red's stone at the end of the ladder makes two threats of the last one
        String helped = text.replace("red c1", "red e4 c1");
        rowIs(helped, 81, -1, "..r../.br.b/brbb./rrrrr/bbb..", 7, 20, 16, 21, 17, 22, 18);
        // blue's stone there makes two of blue's
        rowIs(text.replace("blue b2", "blue e4 b2"), 81, -1, "..r../.br.b/brbb./rrr.b/bbb..",
            7, 20, 16, 21, 17, 22);
        // with a row of stones ahead, blue's first block makes two at once
        rowIs(text.replace("blue b2", "blue c5 d5 e5 b2"), 81, -1, "..r../.br.b/brbb./r..../b.bbb", 7, 20);
        HexArbiter arbiter = Check.loaded("board 2; red a1; blue b1; turn blue");
        CHECK.same("blue joins", 1, arbiter.forcedWinner());
    }

    private static void rowIs(String text, int most, int winner, String board, int... moves) {
        HexArbiter arbiter = Check.loaded(text);
        if (most == 81) {
            CHECK.same(text + ": forcedRow()", moves.length - 1, arbiter.forcedRow());
            CHECK.same(text + ": forcedWinner()", winner, arbiter.forcedWinner());
        }
        CHECK.same(text + ": playForced(" + most + ")", moves.length - 1, arbiter.playForced(most));
        CHECK.same(text + ": board", board, Check.board(arbiter));
        CHECK.same(text + ": winner", winner, arbiter.size(6));
        CHECK.same(text + ": turn", moves.length % 2, arbiter.size(5));
        for (int index = 0; index < moves.length; index++) {
            CHECK.same(text + ": move " + index, moves[index], arbiter.moveAt(index));
        }
        CHECK.same(text + ": one action", 0, arbiter.undo());
        CHECK.same(text + ": taken back", Check.board(Check.loaded(text)), Check.board(arbiter));
    }

    /** Promise 50. */
    private static void undoing() {
        HexArbiter arbiter = Check.loaded("board 4");
        CHECK.same("nothing to undo", -1, arbiter.undo());
        for (int cell = 0; cell < 10; cell++) {
            arbiter.put(cell, 0);
            CHECK.same("actions", Math.min(8, cell + 1), arbiter.size(9));
        }
        for (int left = 7; left >= 4; left--) {
            CHECK.same("undo", left, arbiter.undo());
        }
        CHECK.same("the board", "rrrr/rr../..../....", Check.board(arbiter));
        arbiter.writeCell(0);
        arbiter.put(15, 1);
        CHECK.same("one more", 5, arbiter.size(9));
        for (int left = 4; left >= 0; left--) {
            CHECK.same("undo", left, arbiter.undo());
        }
        CHECK.same("none left", -1, arbiter.undo());
        CHECK.same("the board", "rr../..../..../....", Check.board(arbiter));
        CHECK.same("the output stays", "a1", Check.output(arbiter));
        CHECK.same("and no more", 0, arbiter.size(9));
    }

    private static void undoingEachKind() {
        HexArbiter arbiter = Check.loaded("board 3 swap; move a2");
        arbiter.swap();
        arbiter.move(8);
        arbiter.setTurn(0);
        arbiter.put(5, 1);
        arbiter.turnOver();
        arbiter.playForced(81);
        arbiter.giveUp();
        CHECK.same("7 actions", 7, arbiter.size(9));
        while (arbiter.undo() > 0) {
            CHECK.isTrue("going back", arbiter.size(9) > 0);
        }
        CHECK.same("the board", ".../r../...", Check.board(arbiter));
        CHECK.sizes("all taken back", arbiter, 3, 1, 0, 8, 1, 1, -1, 1, -1, 0);
    }

    private static void whatIsNoAction() {
        HexArbiter arbiter = Check.loaded("board 3; move a1");
        arbiter.move(0);
        arbiter.swap();
        CHECK.outside("move(9)", () -> arbiter.move(9));
        CHECK.illegal("put(0, 2)", () -> arbiter.put(0, 2));
        arbiter.forcedRow();
        arbiter.forcedWinner();
        arbiter.saveSnapshot(0);
        arbiter.append(98L);
        arbiter.writeRow(0);
        CHECK.same("no actions", 0, arbiter.size(9));
        CHECK.same("nothing to undo", -1, arbiter.undo());
        CHECK.same("nothing changed", "r../.../...", Check.board(arbiter));
    }
}
