/**
 * The boundary cases of section 1 and of promises 6 to 11: a method for each sentence of the document,
 * which stands above it.
 */
public final class BoardBoundaryTest {
    private static final Check CHECK = new Check();
    private static final int[] FAR = {-1, Integer.MIN_VALUE, Integer.MAX_VALUE};

    public static void main(String[] args) {
        neighboursOnTheBoard();
        edgesOfTheSides();
        aSideHasJoined();
        theGameIsOver();
        aSideThatHasGivenUpWinsNevertheless();
        sizeWithoutAnything();
        sizeOfAFullBoard();
        swapCountsAsOneMove();
        sizeTellsTheWinner();
        sizeTellsWhetherSwapWouldBeDone();
        sizeTellsWhoHasGivenUp();
        sizeCountsActions();
        sizeOutOfRange();
        cellThatIsFree();
        noSuchCell();
        noSuchPlace();
        neighbourOfNoCell();
        groupOfAFreeCell();
        groupOfOneStoneAndOfAll();
        freeCellsOfAGroup();
        edgesOfAGroup();
        groupWithWrongArguments();
        groupsOfASide();
        groupsOfNoSide();
        largestOfSeveral();
        largestWithoutStones();
        largestOfNoSide();
        CHECK.end("BoardBoundaryTest");
    }

    /** "those of the six cells (r, c - 1), (r, c + 1), (r - 1, c), ... that are on the board" */
    private static void neighboursOnTheBoard() {
        HexArbiter least = new HexArbiter();
        neighboursAre(least, 0, 1, 2);
        neighboursAre(least, 1, 0, 2, 3);
        neighboursAre(least, 2, 0, 1, 3);
        neighboursAre(least, 3, 1, 2);
        HexArbiter largest = Check.loaded("board 9");
        neighboursAre(largest, 0, 1, 9);
        neighboursAre(largest, 4, 3, 5, 12, 13);
        neighboursAre(largest, 8, 7, 16, 17);
        neighboursAre(largest, 36, 27, 28, 37, 45);
        neighboursAre(largest, 40, 31, 32, 39, 41, 48, 49);
        neighboursAre(largest, 44, 35, 43, 52, 53);
        neighboursAre(largest, 72, 63, 64, 73);
        neighboursAre(largest, 76, 67, 68, 75, 77);
        neighboursAre(largest, 80, 71, 79);
    }

    private static void neighboursAre(HexArbiter arbiter, int cell, int... due) {
        for (int index = 0; index <= due.length; index++) {
            int one = index == due.length ? -1 : due[index];
            CHECK.same("neighbour(" + cell + ", " + index + ")", one, arbiter.neighbour(cell, index));
        }
    }

    /** "The edge 0 of red are the cells of the row 0, its edge 1 those of the last row; the edge 0 of blue ..." */
    private static void edgesOfTheSides() {
        for (int size = 2; size <= 9; size++) {
            for (int cell = 0; cell < size * size; cell++) {
                int row = cell / size;
                int column = cell % size;
                HexArbiter arbiter = Check.loaded("board " + size);
                arbiter.put(cell, 0);
                int red = (row == 0 ? 1 : 0) + (row == size - 1 ? 2 : 0);
                CHECK.same(size + ": red in " + cell, red, arbiter.group(cell, 3));
                arbiter.put(cell, 1);
                int blue = (column == 0 ? 1 : 0) + (column == size - 1 ? 2 : 0);
                CHECK.same(size + ": blue in " + cell, blue, arbiter.group(cell, 3));
            }
        }
    }

    /** "A side has joined if a group of it has cells at both of its edges." */
    private static void aSideHasJoined() {
        CHECK.same("red, the least board", 0, winner("board 2; red a1 a2"));
        CHECK.same("red aslant", 0, winner("board 2; red b1 a2"));
        CHECK.same("red, not the other way aslant", -1, winner("board 2; red a1 b2"));
        CHECK.same("red in one row", -1, winner("board 2; red a1 b1"));
        CHECK.same("blue, the least board", 1, winner("board 2; blue a1 b1"));
        CHECK.same("blue aslant", 1, winner("board 2; blue b1 a2"));
        CHECK.same("blue, not the other way aslant", -1, winner("board 2; blue a1 b2"));
        CHECK.same("blue in one column", -1, winner("board 2; blue a1 a2"));
        CHECK.same("red, the largest board", 0, winner("board 9; red i1 i2 i3 i4 i5 i6 i7 i8 i9"));
        CHECK.same("red, but for the row 0", -1, winner("board 9; red i2 i3 i4 i5 i6 i7 i8 i9"));
        CHECK.same("red, but for the last row", -1, winner("board 9; red i1 i2 i3 i4 i5 i6 i7 i8"));
        CHECK.same("red, but for one between", -1, winner("board 9; red i1 i2 i3 i4 i6 i7 i8 i9"));
        CHECK.same("blue, the largest board", 1, winner("board 9; blue a9 b9 c9 d9 e9 f9 g9 h9 i9"));
        CHECK.same("blue, but for the column 0", -1, winner("board 9; blue b9 c9 d9 e9 f9 g9 h9 i9"));
        CHECK.same("blue, but for the last column", -1, winner("board 9; blue a9 b9 c9 d9 e9 f9 g9 h9"));
        CHECK.same("two groups with an edge each", -1, winner("board 3; red a1 a2 c2 c3"));
        CHECK.same("a full board", 1, winner("board 3; red a1 b1 c2 a3 c3; blue c1 a2 b2 b3"));
    }

    private static int winner(String text) {
        return Check.loaded(text).size(6);
    }

    /** "The game is over if a side has joined, or has given up: the winner is ... the one that has not given up." */
    private static void theGameIsOver() {
        CHECK.same("at first", -1, new HexArbiter().size(6));
        HexArbiter red = new HexArbiter();
        red.giveUp();
        CHECK.same("red has given up", 1, red.size(6));
        HexArbiter blue = Check.loaded("board 2; turn blue");
        blue.giveUp();
        CHECK.same("blue has given up", 0, blue.size(6));
        CHECK.same("red has joined", 0, winner("board 2; red a1 a2; turn red"));
        CHECK.same("blue has joined", 1, winner("board 2; blue a1 b1; turn blue"));
    }

    /** "a side that has given up wins nevertheless if it has joined" */
    private static void aSideThatHasGivenUpWinsNevertheless() {
        HexArbiter red = Check.loaded("board 2; red a1");
        red.giveUp();
        CHECK.same("red has given up", 1, red.size(6));
        red.put(2, 0);
        CHECK.same("red has joined", 0, red.size(6));
        CHECK.same("who has given up stays", 0, red.size(8));
        CHECK.same("solved()", 0, red.solved());
        CHECK.same("forcedWinner()", 0, red.forcedWinner());
        red.put(2, 1);
        CHECK.same("and no more", 1, red.size(6));
        HexArbiter blue = Check.loaded("board 2; blue a1; turn blue");
        blue.giveUp();
        CHECK.same("blue has given up", 0, blue.size(6));
        blue.put(1, 1);
        CHECK.same("blue has joined", 1, blue.size(6));
    }

    /** Promise 6, nothing there: "4 moves", "6 the winner (NONE if ...)", "8 the side that has given up (NONE)" */
    private static void sizeWithoutAnything() {
        CHECK.sizes("nothing", new HexArbiter(), 2, 0, 0, 4, 0, 0, -1, 0, -1, 0);
        CHECK.sizes("nothing", Check.loaded("board 9 swap; turn blue"), 9, 0, 0, 81, 0, 1, -1, 0, -1, 0);
    }

    /** Promise 6: "1 stones of red, 2 stones of blue, 3 free cells" */
    private static void sizeOfAFullBoard() {
        HexArbiter full = Check.loaded("board 2; red b1 a2; blue a1 b2");
        CHECK.sizes("a full board", full, 2, 2, 2, 0, 0, 0, 0, 0, -1, 0);
        full.put(3, -1);
        CHECK.sizes("but for one cell", full, 2, 2, 1, 1, 0, 0, 0, 0, -1, 1);
        CHECK.sizes("blue's alone", Check.loaded("board 2; blue a1 b1 a2 b2"), 2, 0, 4, 0, 0, 0, 1, 0, -1, 0);
    }

    /** Promise 6: "4 moves (swap() counts as one)" */
    private static void swapCountsAsOneMove() {
        HexArbiter arbiter = Check.loaded("board 3 swap; move b1");
        CHECK.same("one move", 1, arbiter.size(4));
        arbiter.swap();
        CHECK.same("and swap()", 2, arbiter.size(4));
        arbiter.undo();
        CHECK.same("taken back", 1, arbiter.size(4));
        arbiter.put(5, 1);
        CHECK.same("put() counts as none", 1, arbiter.size(4));
    }

    /** Promise 6: "6 the winner (NONE if the game is not over)" */
    private static void sizeTellsTheWinner() {
        HexArbiter arbiter = Check.loaded("board 2; red a1");
        CHECK.same("not over", -1, arbiter.size(6));
        arbiter.put(2, 0);
        CHECK.same("over", 0, arbiter.size(6));
        arbiter.put(2, -1);
        CHECK.same("not over again", -1, arbiter.size(6));
    }

    /** Promise 6: "7 1 if swap() would be done now, otherwise 0" */
    private static void sizeTellsWhetherSwapWouldBeDone() {
        swapIs("with a move", 1, Check.loaded("board 2 swap; move a1"));
        swapIs("with blue's move", 1, Check.loaded("board 2 swap; turn blue; move a1"));
        swapIs("without a move", 0, Check.loaded("board 2 swap"));
        swapIs("a stone without a move", 0, Check.loaded("board 2 swap; red a1; turn blue"));
        swapIs("two moves", 0, Check.loaded("board 2 swap; move a1 b1"));
        swapIs("without swap", 0, Check.loaded("board 2; move a1"));
        swapIs("a second stone", 0, Check.loaded("board 2 swap; move a1; blue b1"));
        swapIs("the turn of the side that moved", 0, Check.loaded("board 2 swap; move a1; turn red"));
        HexArbiter gone = Check.loaded("board 2 swap; move a1");
        gone.put(0, -1);
        swapIs("no stone", 0, gone);
        gone.put(3, 0);
        swapIs("not the stone of the move", 0, gone);
        gone.put(3, -1);
        gone.put(0, 1);
        swapIs("a stone of the side whose turn it is", 0, gone);
        HexArbiter over = Check.loaded("board 2 swap; move a1");
        over.giveUp();
        swapIs("given up", 0, over);
    }

    private static void swapIs(String name, int due, HexArbiter arbiter) {
        CHECK.same(name + ": size(7)", due, arbiter.size(7));
        CHECK.same(name + ": swap()", due == 1, arbiter.swap() >= 0);
    }

    /** Promise 6: "8 the side that has given up (NONE)" */
    private static void sizeTellsWhoHasGivenUp() {
        HexArbiter joined = Check.loaded("board 2; red a1 a2; turn blue");
        CHECK.same("joined, not given up", -1, joined.size(8));
        joined.giveUp();
        CHECK.same("a refused call", -1, joined.size(8));
        HexArbiter arbiter = Check.loaded("board 2; turn blue");
        arbiter.giveUp();
        CHECK.same("blue", 1, arbiter.size(8));
        arbiter.undo();
        CHECK.same("taken back", -1, arbiter.size(8));
        arbiter.setTurn(0);
        arbiter.giveUp();
        CHECK.same("red", 0, arbiter.size(8));
    }

    /** Promise 6: "9 actions that can be taken back" (section 6: "the latest 8 of them") */
    private static void sizeCountsActions() {
        HexArbiter arbiter = new HexArbiter();
        for (int done = 0; done <= 20; done++) {
            CHECK.same("behind " + done, Math.min(8, done), arbiter.size(9));
            arbiter.setTurn(0);
        }
    }

    /** Promise 6: "IllegalArgumentException if what is out of range" */
    private static void sizeOutOfRange() {
        HexArbiter arbiter = new HexArbiter();
        CHECK.same("size(0)", 2, arbiter.size(0));
        CHECK.same("size(9)", 0, arbiter.size(9));
        CHECK.illegal("size(10)", () -> arbiter.size(10));
        for (int what : FAR) {
            CHECK.illegal("size(" + what + ")", () -> arbiter.size(what));
        }
    }

    /** Promise 7: "NONE if it is free" */
    private static void cellThatIsFree() {
        HexArbiter arbiter = Check.loaded("board 9; red a1; blue i9");
        CHECK.same("the first one", 0, arbiter.cell(0));
        CHECK.same("the last one", 1, arbiter.cell(80));
        CHECK.same("a free one", -1, arbiter.cell(1));
        arbiter.put(80, -1);
        CHECK.same("free again", -1, arbiter.cell(80));
    }

    /** Promise 7: "IndexOutOfBoundsException if there is no such cell" */
    private static void noSuchCell() {
        for (int size = 2; size <= 9; size++) {
            HexArbiter arbiter = Check.loaded("board " + size);
            int behind = size * size;
            CHECK.same("the last cell of " + size, -1, arbiter.cell(behind - 1));
            CHECK.outside("the cell behind it", () -> arbiter.cell(behind));
            for (int cell : FAR) {
                CHECK.outside("cell(" + cell + ")", () -> arbiter.cell(cell));
            }
        }
        // cells of a board that was there before, or that an error kept from coming
        HexArbiter arbiter = Check.loaded("board 9");
        Check.load(arbiter, "board 2");
        CHECK.outside("of the board before", () -> arbiter.cell(4));
        Check.load(arbiter, "board 9 x");
        CHECK.outside("of a text with an error", () -> arbiter.cell(4));
    }

    /** Promise 8: "NONE if there is no such place" */
    private static void noSuchPlace() {
        HexArbiter arbiter = Check.loaded("board 3");
        CHECK.same("the last place in the middle", 7, arbiter.neighbour(4, 5));
        CHECK.same("the last place in the corner", 3, arbiter.neighbour(0, 1));
        int[] behind = {2, 4, 3, 4, 6, 4, 3, 4, 2};
        for (int cell = 0; cell < behind.length; cell++) {
            CHECK.isTrue("just ahead, " + cell, arbiter.neighbour(cell, behind[cell] - 1) >= 0);
            CHECK.same("just behind, " + cell, -1, arbiter.neighbour(cell, behind[cell]));
            CHECK.same("the place 6, " + cell, -1, arbiter.neighbour(cell, 6));
            for (int index : FAR) {
                CHECK.same("neighbour(" + cell + ", " + index + ")", -1, arbiter.neighbour(cell, index));
            }
        }
    }

    /** Promise 8: "IndexOutOfBoundsException if there is no such cell" */
    private static void neighbourOfNoCell() {
        HexArbiter arbiter = Check.loaded("board 3");
        for (int index : new int[] {0, 5, 6, -1}) {
            CHECK.outside("neighbour(9, " + index + ")", () -> arbiter.neighbour(9, index));
            for (int cell : FAR) {
                CHECK.outside("neighbour(" + cell + ", " + index + ")", () -> arbiter.neighbour(cell, index));
            }
        }
    }

    /** Promise 9: "NONE if the cell is free" */
    private static void groupOfAFreeCell() {
        HexArbiter arbiter = Check.loaded("board 2; red a1 b1");
        for (int what = 0; what <= 3; what++) {
            CHECK.same("a free cell", -1, arbiter.group(3, what));
            CHECK.same("an empty board", -1, new HexArbiter().group(0, what));
        }
        arbiter.put(1, -1);
        CHECK.same("free again", -1, arbiter.group(1, 0));
    }

    /** Promise 9: "0 its lowest cell, 1 its stones" */
    private static void groupOfOneStoneAndOfAll() {
        groupIs(Check.loaded("board 2; red b2"), 3, 3, 1, 2, 2);
        groupIs(Check.loaded("board 2; blue a1 b1 a2 b2"), 3, 0, 4, 0, 3);
        HexArbiter full = Check.loaded("board 9; red " + rows(1, 9));
        groupIs(full, 80, 0, 81, 0, 3);
        groupIs(full, 0, 0, 81, 0, 3);
        // a way through the whole board: row by row, the lowest cell at its far end
        HexArbiter snake = Check.loaded("board 5; red a1 b1 c1 d1 e1 d2 a3 b3 c3 d3 a4 a5 b5 c5 d5 e5");
        groupIs(snake, 24, 0, 16, 9, 3);
    }

    private static String rows(int from, int to) {
        StringBuilder cells = new StringBuilder();
        for (int row = from; row <= to; row++) {
            for (char column = 'a'; column <= 'i'; column++) {
                cells.append(column).append(row);
            }
        }
        return cells.toString();
    }

    private static void groupIs(HexArbiter arbiter, int cell, int... due) {
        for (int what = 0; what < due.length; what++) {
            CHECK.same("group(" + cell + ", " + what + ")", due[what], arbiter.group(cell, what));
        }
    }

    /** Promise 9: "2 the free cells that are neighbours of it" */
    private static void freeCellsOfAGroup() {
        CHECK.same("each one counts once", 8, Check.loaded("board 4; red b2 c2").group(5, 2));
        CHECK.same("not those with stones", 6, Check.loaded("board 4; red b2 c2; blue c1 b3").group(5, 2));
        CHECK.same("nor those of another group", 4, Check.loaded("board 4; red b2 d2; blue b3 c2").group(5, 2));
        CHECK.same("none are left", 0, Check.loaded("board 2; red a1; blue b1 a2").group(0, 2));
        CHECK.same("the first cell is one of them", 3, Check.loaded("board 2; red b1").group(1, 2));
        CHECK.same("the last cell is one of them", 3, Check.loaded("board 2; red a2").group(2, 2));
        CHECK.same("in a corner", 2, Check.loaded("board 9; red i9").group(80, 2));
    }

    /** Promise 9: "3 its edges: 1 for the edge 0 and 2 for the edge 1, added" */
    private static void edgesOfAGroup() {
        CHECK.same("none", 0, Check.loaded("board 3; red b2").group(4, 3));
        CHECK.same("none of red at blue's", 0, Check.loaded("board 3; red a2").group(3, 3));
        CHECK.same("the edge 0", 1, Check.loaded("board 3; red b1 b2").group(4, 3));
        CHECK.same("the edge 1", 2, Check.loaded("board 3; red b2 b3").group(4, 3));
        CHECK.same("both", 3, Check.loaded("board 3; red b1 b2 b3").group(4, 3));
        CHECK.same("not those of another group", 1, Check.loaded("board 3; red a1 c3").group(0, 3));
    }

    /** Promise 9: "IndexOutOfBoundsException if there is no such cell", "IllegalArgumentException if what is ..." */
    private static void groupWithWrongArguments() {
        HexArbiter arbiter = Check.loaded("board 3; red a1");
        CHECK.outside("group(9, 0)", () -> arbiter.group(9, 0));
        CHECK.illegal("group(0, 4)", () -> arbiter.group(0, 4));
        CHECK.illegal("group(1, 4), a free cell", () -> arbiter.group(1, 4));
        CHECK.outside("group(9, 4), both", () -> arbiter.group(9, 4));
        for (int far : FAR) {
            CHECK.outside("group(" + far + ", 3)", () -> arbiter.group(far, 3));
            CHECK.illegal("group(0, " + far + ")", () -> arbiter.group(0, far));
            CHECK.outside("group(" + far + ", " + far + ")", () -> arbiter.group(far, far));
        }
    }

    /** Promise 10: "Counts the groups of a side." */
    private static void groupsOfASide() {
        CHECK.same("none", 0, new HexArbiter().groups(0));
        CHECK.same("none of blue", 0, Check.loaded("board 2; red a1 b1 a2 b2").groups(1));
        CHECK.same("all are one", 1, Check.loaded("board 2; red a1 b1 a2 b2").groups(0));
        CHECK.same("each one its own", 3, Check.loaded("board 3; red a1 b2 c3").groups(0));
        CHECK.same("two become one", 1, Check.loaded("board 3; red a2 b1 c1").groups(0));
        // the most that fit: no two of these cells are neighbours
        String apart = "board 9; blue a1 d1 g1 b2 e2 h2 c3 f3 i3 a4 d4 g4 b5 e5 h5 c6 f6 i6 a7 d7 g7 b8 e8 h8 c9 f9 i9";
        CHECK.same("27 groups", 27, Check.loaded(apart).groups(1));
    }

    /** Promise 10: "IllegalArgumentException if side is out of range" */
    private static void groupsOfNoSide() {
        HexArbiter arbiter = new HexArbiter();
        CHECK.same("groups(1)", 0, arbiter.groups(1));
        CHECK.illegal("groups(2)", () -> arbiter.groups(2));
        for (int side : FAR) {
            CHECK.illegal("groups(" + side + ")", () -> arbiter.groups(side));
        }
    }

    /** Promise 11: "Returns its lowest cell, of several groups the least" */
    private static void largestOfSeveral() {
        CHECK.same("of one", 8, Check.loaded("board 3; blue c3").largest(1));
        CHECK.same("of two alike", 0, Check.loaded("board 3; red a1 c3").largest(0));
        CHECK.same("of three alike", 1, Check.loaded("board 4; red b1 c1; blue a1 d1; red a3 b3 c4 d4").largest(0));
        CHECK.same("the later one is larger", 6, Check.loaded("board 3; red a1 a3 b3").largest(0));
        CHECK.same("the first one is larger", 0, Check.loaded("board 3; red a1 b1 c3").largest(0));
        CHECK.same("by one stone", 12, Check.loaded("board 4; red a1 b1 a4 b4 c4").largest(0));
        CHECK.same("the other side's count not", 0, Check.loaded("board 3; red a1; blue a3 b3").largest(0));
    }

    /** Promise 11: "NONE without stones" */
    private static void largestWithoutStones() {
        CHECK.same("none of red", -1, Check.loaded("board 2; blue a1 b1 a2 b2").largest(0));
        CHECK.same("none of blue", -1, Check.loaded("board 2; red a1 b1 a2 b2").largest(1));
        CHECK.same("an empty board", -1, new HexArbiter().largest(1));
    }

    /** Promise 11: "IllegalArgumentException if side is out of range" */
    private static void largestOfNoSide() {
        HexArbiter arbiter = new HexArbiter();
        CHECK.illegal("largest(2)", () -> arbiter.largest(2));
        for (int side : FAR) {
            CHECK.illegal("largest(" + side + ")", () -> arbiter.largest(side));
        }
    }
}
