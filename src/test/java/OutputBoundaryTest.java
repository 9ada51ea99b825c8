/**
 * The boundary cases of promises 46 to 49, 51 and 52: a method for each sentence of the document,
 * which stands above it.
 */
public final class OutputBoundaryTest {
    private static final Check CHECK = new Check();
    private static final int[] FAR = {-1, Integer.MIN_VALUE, Integer.MAX_VALUE};

    public static void main(String[] args) {
        fullnessOfNoneAndOfAll();
        writeRowInPlaceOfWhatItHad();
        writeRowOfEachSize();
        writeRowOfNoRow();
        writeCellAsInADescription();
        writeCellOfNoCell();
        noSuchByte();
        saveReturnsTheFreeCells();
        saveOfNoSlot();
        nothingWasSavedThere();
        theSnapshotStays();
        everythingIsReplaced();
        exceptTheRest();
        restoreOfNoSlot();
        CHECK.end("OutputBoundaryTest");
    }

    /** Promise 46: "(double) (the stones) / (double) (the cells)" */
    private static void fullnessOfNoneAndOfAll() {
        for (int size = 2; size <= 9; size++) {
            HexArbiter arbiter = Check.loaded("board " + size);
            int cells = size * size;
            CHECK.same(size + ": none", 0.0, arbiter.fullness());
            for (int cell = 0; cell < cells; cell++) {
                arbiter.put(cell, cell % 2);
                CHECK.same(size + ": " + cell, (double) (cell + 1) / (double) cells, arbiter.fullness());
            }
            CHECK.same(size + ": all", 1.0, arbiter.fullness());
        }
    }

    private static void rowIs(HexArbiter arbiter, int row, String due) {
        CHECK.same("writeRow(" + row + ")", due.length(), arbiter.writeRow(row));
        CHECK.same("writeRow(" + row + ")", due, Check.output(arbiter));
    }

    /** Promise 47: "in place of what it had: for each cell the letter r, b, or a full stop (46) if it is free" */
    private static void writeRowInPlaceOfWhatItHad() {
        HexArbiter arbiter = Check.loaded("board 3; red a1 c3; blue b1 a2 b2 c2");
        rowIs(arbiter, 0, "rb.");
        rowIs(arbiter, 1, "bbb");
        rowIs(arbiter, 2, "..r");
        arbiter.writeRow(0);
        CHECK.same("r", 114, arbiter.outputByte(0));
        CHECK.same("b", 98, arbiter.outputByte(1));
        CHECK.same("a full stop", 46, arbiter.outputByte(2));
        arbiter.put(0, -1);
        CHECK.same("the output stays", "rb.", Check.output(arbiter));
        // a shorter one in place of a longer one
        Check.load(arbiter, "board 9");
        rowIs(arbiter, 8, ".........");
        arbiter.writeCell(0);
        CHECK.same("shorter", "a1", Check.output(arbiter));
        Check.load(arbiter, "board 2; red b1");
        rowIs(arbiter, 0, ".r");
    }

    /** Promise 47: "Returns the length of the output." */
    private static void writeRowOfEachSize() {
        for (int size = 2; size <= 9; size++) {
            HexArbiter arbiter = Check.loaded("board " + size);
            arbiter.put(size * size - 1, 1);
            rowIs(arbiter, 0, ".".repeat(size));
            rowIs(arbiter, size - 1, ".".repeat(size - 1) + "b");
        }
    }

    /** Promise 47: "IndexOutOfBoundsException if there is no such row" */
    private static void writeRowOfNoRow() {
        for (int size = 2; size <= 9; size++) {
            HexArbiter arbiter = Check.loaded("board " + size);
            arbiter.writeCell(0);
            int behind = size;
            CHECK.outside("writeRow(" + size + ")", () -> arbiter.writeRow(behind));
            for (int row : FAR) {
                CHECK.outside("writeRow(" + row + ")", () -> arbiter.writeRow(row));
            }
            CHECK.same("the output stays", "a1", Check.output(arbiter));
        }
    }

    /** Promise 48: "Writes a cell as in a description to the output, in place of what it had." */
    private static void writeCellAsInADescription() {
        for (int size = 2; size <= 9; size++) {
            HexArbiter arbiter = Check.loaded("board " + size);
            arbiter.writeRow(0);
            for (int cell = 0; cell < size * size; cell++) {
                String due = (char) ('a' + cell % size) + "" + (1 + cell / size);
                CHECK.same(size + ": writeCell(" + cell + ")", 2, arbiter.writeCell(cell));
                CHECK.same(size + ": writeCell(" + cell + ")", due, Check.output(arbiter));
            }
            HexArbiter back = Check.loaded("board " + size + "; red " + Check.output(arbiter));
            CHECK.same(size + ": read as a description", 0, back.cell(size * size - 1));
        }
    }

    /** Promise 48: "IndexOutOfBoundsException if there is no such cell" */
    private static void writeCellOfNoCell() {
        for (int size = 2; size <= 9; size++) {
            HexArbiter arbiter = Check.loaded("board " + size);
            arbiter.writeRow(0);
            int behind = size * size;
            CHECK.outside("writeCell(" + behind + ")", () -> arbiter.writeCell(behind));
            for (int cell : FAR) {
                CHECK.outside("writeCell(" + cell + ")", () -> arbiter.writeCell(cell));
            }
            CHECK.same("the output stays", ".".repeat(size), Check.output(arbiter));
        }
    }

    /** Promise 49: "NONE if there is none" */
    private static void noSuchByte() {
        CHECK.same("an empty output", -1, new HexArbiter().outputByte(0));
        HexArbiter arbiter = Check.loaded("board 9");
        arbiter.writeRow(0);
        CHECK.same("the last byte", 46, arbiter.outputByte(8));
        CHECK.same("behind it", -1, arbiter.outputByte(9));
        arbiter.writeCell(80);
        CHECK.same("the last byte", 57, arbiter.outputByte(1));
        CHECK.same("behind it, where one was", -1, arbiter.outputByte(2));
        for (int index : FAR) {
            CHECK.same("outputByte(" + index + ")", -1, arbiter.outputByte(index));
        }
        CHECK.outside("a refused call", () -> arbiter.writeCell(81));
        CHECK.same("the output stays", 105, arbiter.outputByte(0));
    }

    /** Promise 51: "Returns the free cells." */
    private static void saveReturnsTheFreeCells() {
        CHECK.same("none are free", 0, Check.loaded("board 2; red a1 b1 a2 b2").saveSnapshot(0));
        CHECK.same("all are free", 81, Check.loaded("board 9").saveSnapshot(1));
        HexArbiter arbiter = Check.loaded("board 2; red a1");
        CHECK.same("3 are", 3, arbiter.saveSnapshot(1));
        CHECK.same("it is no action", 0, arbiter.size(9));
        arbiter.put(0, -1);
        CHECK.same("the later one counts", 4, arbiter.saveSnapshot(1));
        CHECK.same("the later one counts", 4, arbiter.restoreSnapshot(1));
    }

    /** Promise 51: "IllegalArgumentException if slot is out of range" */
    private static void saveOfNoSlot() {
        HexArbiter arbiter = new HexArbiter();
        CHECK.illegal("saveSnapshot(2)", () -> arbiter.saveSnapshot(2));
        for (int slot : FAR) {
            CHECK.illegal("saveSnapshot(" + slot + ")", () -> arbiter.saveSnapshot(slot));
        }
        CHECK.same("nothing was saved", -1, arbiter.restoreSnapshot(0));
        CHECK.same("nothing was saved", -1, arbiter.restoreSnapshot(1));
    }

    /** Promise 52: "NONE, and nothing changes, if nothing was saved there" */
    private static void nothingWasSavedThere() {
        for (int slot = 0; slot <= 1; slot++) {
            HexArbiter arbiter = Check.loaded("board 3; red a1; move b1");
            arbiter.put(8, 1);
            arbiter.saveSnapshot(1 - slot);
            arbiter.writeRow(0);
            String before = Check.seen(arbiter);
            CHECK.same("restoreSnapshot(" + slot + ")", -1, arbiter.restoreSnapshot(slot));
            CHECK.same("nothing changes", before, Check.seen(arbiter));
            CHECK.same("the action can be taken back still", 0, arbiter.undo());
            CHECK.same("the other one", 6, arbiter.restoreSnapshot(1 - slot));
        }
    }

    /** Promise 52: "by a copy of a snapshot, which stays" */
    private static void theSnapshotStays() {
        HexArbiter arbiter = Check.loaded("board 2; move a1");
        arbiter.saveSnapshot(0);
        for (int round = 0; round < 3; round++) {
            CHECK.same("restored", 3, arbiter.restoreSnapshot(0));
            CHECK.same("restored", "r./..", Check.board(arbiter));
            CHECK.same("restored", 1, arbiter.size(4));
            arbiter.move(3);
            arbiter.put(0, 1);
            arbiter.turnOver();
            arbiter.giveUp();
        }
        Check.load(arbiter, "board 9; red a1");
        CHECK.same("behind another board", 3, arbiter.restoreSnapshot(0));
        CHECK.same("behind another board", "r./..", Check.board(arbiter));
        CHECK.outside("the board is small", () -> arbiter.cell(4));
        CHECK.same("its cells", 2, arbiter.neighbour(0, 1));
    }

    /** Promises 51 and 52: "Copies everything": the board, swap, the moves, the turn and who has given up */
    private static void everythingIsReplaced() {
        HexArbiter arbiter = Check.loaded("board 3 swap; move b1");
        arbiter.saveSnapshot(0);
        Check.load(arbiter, "board 2; red a1; turn blue");
        arbiter.giveUp();
        arbiter.saveSnapshot(1);
        CHECK.same("slot 0", 8, arbiter.restoreSnapshot(0));
        CHECK.sizes("slot 0", arbiter, 3, 1, 0, 8, 1, 1, -1, 1, -1, 0);
        CHECK.same("slot 0: the move", 1, arbiter.moveAt(0));
        CHECK.same("slot 0: swap()", 3, arbiter.swap());
        CHECK.same("slot 1", 3, arbiter.restoreSnapshot(1));
        CHECK.sizes("slot 1", arbiter, 2, 1, 0, 3, 0, 1, 0, 0, 1, 0);
        CHECK.same("slot 1: no move", -1, arbiter.moveAt(0));
        CHECK.same("slot 1: no swap", -3, arbiter.swap());
        HexArbiter empty = new HexArbiter();
        empty.saveSnapshot(0);
        Check.load(empty, "board 9 swap; move i9");
        CHECK.same("a snapshot of a new object", 4, empty.restoreSnapshot(0));
        CHECK.sizes("a snapshot of a new object", empty, 2, 0, 0, 4, 0, 0, -1, 0, -1, 0);
        HexArbiter full = Check.loaded("board 2; red a1 b1 a2 b2");
        full.saveSnapshot(1);
        Check.load(full, "board 3");
        CHECK.same("a snapshot of a full board", 0, full.restoreSnapshot(1));
        CHECK.same("a snapshot of a full board", 0, full.size(6));
    }

    /** Promise 51: "except the input buffer, the results of the latest load, the actions, the output ..." */
    private static void exceptTheRest() {
        HexArbiter arbiter = Check.loaded("board 2");
        arbiter.put(0, 0);
        arbiter.writeCell(0);
        Check.append(arbiter, "bo");
        arbiter.saveSnapshot(0);
        CHECK.same("the actions stay", 1, arbiter.size(9));
        arbiter.load();
        arbiter.writeCell(3);
        Check.append(arbiter, "boa");
        arbiter.put(1, 0);
        arbiter.saveSnapshot(1);
        CHECK.same("restoreSnapshot(0)", 3, arbiter.restoreSnapshot(0));
        CHECK.same("the input buffer", 3, arbiter.append(0L));
        CHECK.same("loadError()", 1, arbiter.loadError());
        CHECK.same("loadStatement()", 0, arbiter.loadStatement());
        CHECK.same("nothing can be taken back", -1, arbiter.undo());
        CHECK.same("the output", "b2", Check.output(arbiter));
        CHECK.same("the other snapshot", 2, arbiter.restoreSnapshot(1));
    }

    /** Promise 52: "IllegalArgumentException if slot is out of range" */
    private static void restoreOfNoSlot() {
        HexArbiter arbiter = new HexArbiter();
        arbiter.saveSnapshot(0);
        arbiter.saveSnapshot(1);
        arbiter.put(0, 0);
        CHECK.illegal("restoreSnapshot(2)", () -> arbiter.restoreSnapshot(2));
        for (int slot : FAR) {
            CHECK.illegal("restoreSnapshot(" + slot + ")", () -> arbiter.restoreSnapshot(slot));
        }
        CHECK.same("nothing changes", 0, arbiter.cell(0));
        CHECK.same("nothing changes", 1, arbiter.size(9));
        HexArbiter empty = new HexArbiter();
        CHECK.illegal("though nothing was saved", () -> empty.restoreSnapshot(2));
    }
}
