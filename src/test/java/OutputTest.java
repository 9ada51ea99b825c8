/** Promises 46 to 49, 51 and 52: fullness, output and snapshots. */
public final class OutputTest {
    private static final Check CHECK = new Check();

    public static void main(String[] args) {
        fullness();
        rows();
        cells();
        bytes();
        snapshots();
        whatSnapshotsLeave();
        CHECK.end("OutputTest");
    }

    /** Promise 46. */
    private static void fullness() {
        CHECK.same("nothing", 0.0, new HexArbiter().fullness());
        CHECK.same("a third", 3.0 / 9.0, Check.loaded("board 3; red a1; blue b1 c3").fullness());
        CHECK.same("one of 81", 1.0 / 81.0, Check.loaded("board 9; blue b1").fullness());
        CHECK.same("all", 1.0, Check.loaded("board 2; red a1 b1; blue a2 b2").fullness());
    }

    /** Promise 47. */
    private static void rows() {
        HexArbiter arbiter = Check.loaded("board 4; red a1 b3; blue d1 c3 d4");
        String[] due = {"r..b", "....", ".rb.", "...b"};
        for (int row = 0; row < due.length; row++) {
            CHECK.same("writeRow(" + row + ")", 4, arbiter.writeRow(row));
            CHECK.same("writeRow(" + row + ")", due[row], Check.output(arbiter));
        }
        for (int row : new int[] {-1, 4, Integer.MIN_VALUE, Integer.MAX_VALUE}) {
            CHECK.outside("writeRow(" + row + ")", () -> arbiter.writeRow(row));
        }
        CHECK.same("the output stays", "...b", Check.output(arbiter));
        HexArbiter large = Check.loaded("board 9; red i9");
        CHECK.same("9 bytes", 9, large.writeRow(8));
        CHECK.same("9 bytes", "........r", Check.output(large));
    }

    /** Promise 48. */
    private static void cells() {
        HexArbiter arbiter = Check.loaded("board 9");
        int[] cells = {0, 8, 9, 80, 72, 40};
        String[] due = {"a1", "i1", "a2", "i9", "a9", "e5"};
        arbiter.writeRow(0);
        for (int index = 0; index < cells.length; index++) {
            CHECK.same("writeCell(" + cells[index] + ")", 2, arbiter.writeCell(cells[index]));
            CHECK.same("writeCell(" + cells[index] + ")", due[index], Check.output(arbiter));
        }
        for (int cell : new int[] {-1, 81, Integer.MIN_VALUE, Integer.MAX_VALUE}) {
            CHECK.outside("writeCell(" + cell + ")", () -> arbiter.writeCell(cell));
        }
        CHECK.same("the output stays", "e5", Check.output(arbiter));
    }

    /** Promise 49. */
    private static void bytes() {
        HexArbiter arbiter = Check.loaded("board 3; red a1; blue b1");
        arbiter.writeRow(0);
        int[] due = {114, 98, 46};
        for (int index = 0; index < due.length; index++) {
            CHECK.same("outputByte(" + index + ")", due[index], arbiter.outputByte(index));
        }
        for (int index : new int[] {3, -1, 9, 400, Integer.MIN_VALUE, Integer.MAX_VALUE}) {
            CHECK.same("outputByte(" + index + ")", -1, arbiter.outputByte(index));
        }
        arbiter.writeCell(0);
        CHECK.same("nothing is left behind a shorter one", -1, arbiter.outputByte(2));
    }

    /** Promises 51 and 52. */
    private static void snapshots() {
        HexArbiter arbiter = Check.loaded("board 3 swap; move b1");
        CHECK.same("saveSnapshot(0)", 8, arbiter.saveSnapshot(0));
        arbiter.swap();
        arbiter.giveUp();
        CHECK.same("saveSnapshot(1)", 8, arbiter.saveSnapshot(1));
        Check.load(arbiter, "board 5; red a1; move b1 c1");
        CHECK.same("restoreSnapshot(0)", 8, arbiter.restoreSnapshot(0));
        CHECK.sizes("sizes", arbiter, 3, 1, 0, 8, 1, 1, -1, 1, -1, 0);
        CHECK.same("the move", 1, arbiter.moveAt(0));
        CHECK.outside("the board is small again", () -> arbiter.cell(9));
        CHECK.same("the distance on it", 2, arbiter.distance(0));
        CHECK.same("restoreSnapshot(1)", 8, arbiter.restoreSnapshot(1));
        CHECK.sizes("sizes", arbiter, 3, 0, 1, 8, 2, 0, 1, 0, 0, 0);
        CHECK.same("the second move", 3, arbiter.moveAt(1));
        arbiter.put(0, 0);
        arbiter.put(8, 0);
        CHECK.same("a snapshot is a copy", 8, arbiter.restoreSnapshot(1));
        CHECK.same("nothing to undo", -1, arbiter.undo());
        CHECK.same("the board", ".../b../...", Check.board(arbiter));
        arbiter.put(0, 0);
        CHECK.same("saved once more", 7, arbiter.saveSnapshot(1));
        arbiter.put(8, 0);
        CHECK.same("the later one counts", 7, arbiter.restoreSnapshot(1));
        CHECK.same("the other one stays", 8, arbiter.restoreSnapshot(0));
        CHECK.same("the other one stays", ".r./.../...", Check.board(arbiter));
        for (int slot : new int[] {-1, 2, Integer.MIN_VALUE, Integer.MAX_VALUE}) {
            CHECK.illegal("saveSnapshot(" + slot + ")", () -> arbiter.saveSnapshot(slot));
            CHECK.illegal("restoreSnapshot(" + slot + ")", () -> arbiter.restoreSnapshot(slot));
        }
    }

    private static void whatSnapshotsLeave() {
        HexArbiter arbiter = Check.loaded("board 3");
        arbiter.move(0);
        arbiter.writeCell(4);
        CHECK.same("nothing was saved", -1, arbiter.restoreSnapshot(1));
        CHECK.same("nothing changes", 1, arbiter.size(9));
        arbiter.saveSnapshot(0);
        CHECK.same("saving leaves the actions", 1, arbiter.size(9));
        CHECK.same("an error", -102, Check.load(arbiter, "  x"));
        Check.append(arbiter, "boa");
        arbiter.move(1);
        arbiter.writeCell(5);
        arbiter.undo();
        arbiter.restoreSnapshot(0);
        CHECK.same("the output stays", "c2", Check.output(arbiter));
        CHECK.same("loadError stays", 1, arbiter.loadError());
        CHECK.same("loadStatement stays", 0, arbiter.loadStatement());
        CHECK.same("the input stays", 4, arbiter.append('r'));
        CHECK.same("the other slot is empty", -1, arbiter.restoreSnapshot(1));
    }
}
