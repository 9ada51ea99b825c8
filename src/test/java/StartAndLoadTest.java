/** Promises 1 to 5: a new object and its description. */
public final class StartAndLoadTest {
    private static final Check CHECK = new Check();

    public static void main(String[] args) {
        newObject();
        append();
        appendUpToTheLimit();
        soundTexts();
        errorsOfKind1();
        otherErrors();
        whatAnErrorLeaves();
        whatALoadLeaves();
        CHECK.end("StartAndLoadTest");
    }

    /** Promise 1. */
    private static void newObject() {
        HexArbiter arbiter = new HexArbiter();
        CHECK.sizes("new", arbiter, 2, 0, 0, 4, 0, 0, -1, 0, -1, 0);
        CHECK.same("new: board", "../..", Check.board(arbiter));
        CHECK.same("new: output", -1, arbiter.outputByte(0));
        CHECK.same("new: undo", -1, arbiter.undo());
        CHECK.same("new: swap", -3, arbiter.swap());
        CHECK.same("new: restore 0", -1, arbiter.restoreSnapshot(0));
        CHECK.same("new: restore 1", -1, arbiter.restoreSnapshot(1));
        CHECK.same("new: loadError", 0, arbiter.loadError());
        CHECK.same("new: loadStatement", -1, arbiter.loadStatement());
        CHECK.same("new: load of the empty input", -100, arbiter.load());
        HexArbiter other = new HexArbiter();
        arbiter.move(0);
        CHECK.same("new: objects are apart", -1, other.cell(0));
    }

    /** Promise 2. */
    private static void append() {
        HexArbiter arbiter = new HexArbiter();
        CHECK.same("append nothing", 0, arbiter.append(0L));
        CHECK.same("append with gaps", 3, arbiter.append(0x6200_006f_0000_6100L));
        CHECK.same("append the rest", 7, arbiter.append(0x0072_6400_2000_0033L));
        CHECK.same("the bytes in their order", 3, arbiter.load());
        CHECK.same("append of 8 high bytes", 8, arbiter.append(-1L));
        CHECK.same("append of the highest byte", 9, arbiter.append(Long.MIN_VALUE));
        CHECK.same("high bytes are errors", -100, arbiter.load());
        CHECK.same("append to the emptied input", 1, arbiter.append(98L));
    }

    private static void appendUpToTheLimit() {
        HexArbiter arbiter = new HexArbiter();
        Check.append(arbiter, "board 3;" + "        ".repeat(48) + "    ");
        CHECK.same("append over the limit", -2, arbiter.append(0x2020_2020_2020L));
        CHECK.same("append over the limit by one", -2, arbiter.append(0x20_2020_2020L));
        CHECK.same("append nothing", 396, arbiter.append(0L));
        CHECK.same("append just up to it", 400, arbiter.append(0x2020_2020L));
        CHECK.same("append one more", -2, arbiter.append(1L));
        CHECK.same("append nothing to the full input", 400, arbiter.append(0L));
        CHECK.same("the length of the full input", -500, arbiter.load());
        CHECK.same("its kind", 1, arbiter.loadError());
        CHECK.same("its statement", 1, arbiter.loadStatement());
    }

    /** Promise 3, texts without an error. */
    private static void soundTexts() {
        sound("board 2", "../..", 0, 0);
        sound("board3swap", ".../.../...", 0, 0);
        sound("  board  00003  swap  ", ".../.../...", 0, 0);
        sound("board 3;red a1b2c 03", "r../.r./..r", 0, 0);
        sound(" board 3 ; blue a1 ; red c1 ; blue b3 ", "b.r/.../.b.", 0, 0);
        sound("board 3; turn blue", ".../.../...", 1, 0);
        sound("board 3; turn blue; turn red", ".../.../...", 0, 0);
        sound("board 3; move a1", "r../.../...", 1, 1);
        sound("board 3; move a1 b1; red c3; move c1", "rbr/.../..r", 1, 3);
        sound("board 3; turn blue; move a1 b1 c1; turn blue; move a2", "brb/b../...", 0, 4);
        sound("board 3; red a1 a2 a3; blue b1; red b2", "rb./rr./r..", 0, 0);
        sound("board 9; red i9", "........./........./........./........./........./........./"
            + "........./........./........r", 0, 0);
        HexArbiter arbiter = Check.loaded("board 3 swap; move b1 c1");
        CHECK.same("the moves of the text", 1, arbiter.moveAt(0));
        CHECK.same("the second move of the text", 2, arbiter.moveAt(1));
        CHECK.same("swap by the text", 1, swapsAfter("board 3 swap; move b1"));
        CHECK.same("no swap by the text", 0, swapsAfter("board 3; move b1"));
        Check.load(arbiter, "board 3; move b1");
        CHECK.same("no swap behind a text with one", 0, arbiter.size(7));
        Check.load(arbiter, "board 3; turn blue; move b1");
        Check.load(arbiter, "board 3; red b1");
        CHECK.same("the turn is red's at first", 0, arbiter.size(5));
        CHECK.same("no moves behind a text with one", -1, arbiter.moveAt(0));
    }

    private static int swapsAfter(String text) {
        return Check.loaded(text).size(7);
    }

    private static void sound(String text, String board, int turn, int moves) {
        HexArbiter arbiter = new HexArbiter();
        CHECK.same(text, board.indexOf('/'), Check.load(arbiter, text));
        CHECK.same(text + ": board", board, Check.board(arbiter));
        CHECK.same(text + ": turn", turn, arbiter.size(5));
        CHECK.same(text + ": moves", moves, arbiter.size(4));
        CHECK.same(text + ": winner", text.contains("a3") ? 0 : -1, arbiter.size(6));
        CHECK.same(text + ": actions", 0, arbiter.size(9));
        CHECK.same(text + ": loadError", 0, arbiter.loadError());
        CHECK.same(text + ": loadStatement", -1, arbiter.loadStatement());
    }

    /** Promises 3 to 5; the sign ^ stands where the error is. */
    private static void errorsOfKind1() {
        CHECK.textError("^", 1, 0);
        CHECK.textError("   ^", 1, 0);
        CHECK.textError("^boar 3", 1, 0);
        CHECK.textError("^boards 3", 1, 0);
        CHECK.textError("^coard 3", 1, 0);
        CHECK.textError("^boarb 3", 1, 0);
        CHECK.textError("board 3; ^bed a1", 1, 1);
        CHECK.textError("board 3; turn ^bed", 1, 1);
        CHECK.textError("^Board 3", 1, 0);
        CHECK.textError("^3", 1, 0);
        CHECK.textError("^;board 3", 1, 0);
        CHECK.textError("^red a1", 1, 0);
        CHECK.textError("board^", 1, 0);
        CHECK.textError("board ^", 1, 0);
        CHECK.textError("board ^x", 1, 0);
        CHECK.textError("board ^;", 1, 0);
        CHECK.textError("board ^-3", 1, 0);
        CHECK.textError("board 3 ^swop", 1, 0);
        CHECK.textError("board 3 ^swaps", 1, 0);
        CHECK.textError("board 3 swap ^swap", 1, 0);
        CHECK.textError("board 3 ^4", 1, 0);
        CHECK.textError("board 3 swap ^4", 1, 0);
        CHECK.textError("board 3^.", 1, 0);
        CHECK.textError("board 3^\u00e9", 1, 0);
        CHECK.textError("board 3;^", 1, 1);
        CHECK.textError("board 3; ^", 1, 1);
        CHECK.textError("board 3;^;", 1, 1);
        CHECK.textError("board 3;^\tred a1", 1, 1);
        CHECK.textError("board 3; ^board 3", 1, 1);
        CHECK.textError("board 3; ^swap", 1, 1);
        CHECK.textError("board 3; ^reda1", 1, 1);
        CHECK.textError("board 3; ^moves a1", 1, 1);
        CHECK.textError("board 3; ^7", 1, 1);
        CHECK.textError("board 3; red^", 1, 1);
        CHECK.textError("board 3; red ^;", 1, 1);
        CHECK.textError("board 3; red ^1", 1, 1);
        CHECK.textError("board 3; red ^ab1", 1, 1);
        CHECK.textError("board 3; red ^zz1", 1, 1);
        CHECK.textError("board 3; red ^A1", 1, 1);
        CHECK.textError("board 3; red a^", 1, 1);
        CHECK.textError("board 3; red a ^", 1, 1);
        CHECK.textError("board 3; red a^;", 1, 1);
        CHECK.textError("board 3; red a ^b1", 1, 1);
        CHECK.textError("board 3; red a1 ^2", 1, 1);
        CHECK.textError("board 3; red a1^,b1", 1, 1);
        CHECK.textError("board 3; red a1 ^blue b1", 1, 1);
        CHECK.textError("board 3; red a1; blue b1;^", 1, 3);
        CHECK.textError("board 3; turn^", 1, 1);
        CHECK.textError("board 3; turn ^green", 1, 1);
        CHECK.textError("board 3; turn ^1", 1, 1);
        CHECK.textError("board 3; ^turnred", 1, 1);
        CHECK.textError("board 3; turn red ^blue", 1, 1);
        CHECK.textError("board 3; turn red ^1", 1, 1);
        CHECK.textError("board 3; move^", 1, 1);
        CHECK.textError("board 3; move ^red", 1, 1);
        CHECK.textError("board 2; red a1 a2; move ^bb", 1, 2);
        CHECK.textError("board 2; red a1 a2; move^", 1, 2);
        CHECK.textError("board 2; red a1 a2; move ^1", 1, 2);
    }

    private static void otherErrors() {
        CHECK.textError("board ^1", 2, 0);
        CHECK.textError("board ^0", 2, 0);
        CHECK.textError("board ^10", 2, 0);
        CHECK.textError("board ^4294967299", 2, 0);
        CHECK.textError("board ^99999999999999999999999999 x", 2, 0);
        CHECK.textError("board 3; red ^d1", 2, 1);
        CHECK.textError("board 3; red ^z", 2, 1);
        CHECK.textError("board 3; red a^0", 2, 1);
        CHECK.textError("board 3; red a ^4", 2, 1);
        CHECK.textError("board 3; red a1 b^18446744073709551617", 2, 1);
        CHECK.textError("board 3; red a1; move a^9", 2, 2);
        CHECK.textError("board 3; red a1; move c3 ^j1", 2, 2);
        CHECK.textError("board 3; red a1 ^a1", 3, 1);
        CHECK.textError("board 3; red a1; red ^a1", 3, 2);
        CHECK.textError("board 3; red a1; blue b1 ^a1 x", 3, 2);
        CHECK.textError("board 3; move a1 b1 ^a 1", 3, 1);
        CHECK.textError("board 3; move b2; red ^b2", 3, 2);
        CHECK.textError("board 9;blue " + everyCell() + "^e5", 3, 1);
        CHECK.textError("board 9;blue " + everyCell() + ";move ^e5", 4, 2);
        CHECK.textError("board 2; red a1 a2; move ^b1", 4, 2);
        CHECK.textError("board 2; blue a1 b1; move ^b2", 4, 2);
        CHECK.textError("board 2; move a1 b1 a2 ^b2", 4, 1);
        // an error of the move itself is found ahead of one of its number, and of its cell
        CHECK.textError("board 2; red a1 a2; move ^b9", 4, 2);
        CHECK.textError("board 2; red a1 a2; move ^b", 4, 2);
        CHECK.textError("board 2; red a1 a2; move ^a1", 4, 2);
        CHECK.textError("board 2; red a1 a2; move ^c1", 2, 2);
    }

    private static String everyCell() {
        StringBuilder cells = new StringBuilder();
        for (int cell = 0; cell < 81; cell++) {
            cells.append((char) ('a' + cell % 9)).append(1 + cell / 9);
        }
        return cells.toString();
    }

    private static void whatAnErrorLeaves() {
        HexArbiter arbiter = Check.loaded("board 4 swap; red a1; move c2");
        arbiter.move(9);
        arbiter.saveSnapshot(1);
        arbiter.giveUp();
        arbiter.writeRow(0);
        CHECK.same("an error", -116, Check.load(arbiter, "board 5; red a1 z1"));
        CHECK.same("the board stays", "r.../..r./.b../....", Check.board(arbiter));
        CHECK.same("the grid stays", 4, arbiter.neighbour(1, 2));
        CHECK.same("the moves stay", 2, arbiter.size(4));
        CHECK.same("who has given up stays", 0, arbiter.size(8));
        CHECK.same("the actions stay", 2, arbiter.size(9));
        CHECK.same("the output stays", "r...", Check.output(arbiter));
        CHECK.same("the input is emptied", 1, arbiter.append(98L));
        CHECK.same("undo", 1, arbiter.undo());
        CHECK.same("the snapshot stays", 13, arbiter.restoreSnapshot(1));
        CHECK.same("loadError stays", 2, arbiter.loadError());
        CHECK.same("loadStatement stays", 1, arbiter.loadStatement());
    }

    private static void whatALoadLeaves() {
        HexArbiter arbiter = Check.loaded("board 4 swap; red a1; move c2");
        arbiter.move(9);
        arbiter.saveSnapshot(0);
        arbiter.giveUp();
        arbiter.writeCell(6);
        Check.load(arbiter, "nothing");
        CHECK.same("load anew", 3, Check.load(arbiter, "board 3"));
        CHECK.same("loadError anew", 0, arbiter.loadError());
        CHECK.same("loadStatement anew", -1, arbiter.loadStatement());
        CHECK.sizes("load anew", arbiter, 3, 0, 0, 9, 0, 0, -1, 0, -1, 0);
        CHECK.same("the board is new", ".../.../...", Check.board(arbiter));
        CHECK.same("there is nothing to undo", -1, arbiter.undo());
        CHECK.same("the output stays", "c2", Check.output(arbiter));
        CHECK.same("the snapshot stays", 13, arbiter.restoreSnapshot(0));
        CHECK.same("the snapshot", "r.../..r./.b../....", Check.board(arbiter));
    }
}
