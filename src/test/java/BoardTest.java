/** Promises 6 to 11: numbers of the board, its cells and groups. */
public final class BoardTest {
    private static final Check CHECK = new Check();

    public static void main(String[] args) {
        sizes();
        winners();
        cells();
        neighbours();
        groupNumbers();
        groupCounts();
        CHECK.end("BoardTest");
    }

    /** Promise 6. */
    private static void sizes() {
        HexArbiter arbiter = Check.loaded("board 4 swap; move b1");
        CHECK.sizes("sizes", arbiter, 4, 1, 0, 15, 1, 1, -1, 1, -1, 0);
        arbiter.swap();
        CHECK.sizes("sizes", arbiter, 4, 0, 1, 15, 2, 0, -1, 0, -1, 1);
        arbiter.giveUp();
        CHECK.sizes("sizes", arbiter, 4, 0, 1, 15, 2, 0, 1, 0, 0, 2);
        arbiter.put(15, 0);
        CHECK.sizes("sizes", arbiter, 4, 1, 1, 14, 2, 0, 1, 0, 0, 3);
        for (int what : new int[] {-1, 10, Integer.MIN_VALUE, Integer.MAX_VALUE}) {
            CHECK.illegal("size(" + what + ")", () -> arbiter.size(what));
        }
    }

    /** The winner of promise 6: section 1. */
    private static void winners() {
        CHECK.same("red joined", 0, winner("board 3; red b1 b2 a3"));
        CHECK.same("red not joined by corners that don't touch", -1, winner("board 3; red a1 b2 c3"));
        CHECK.same("red not joined from left to right", -1, winner("board 3; red a2 b2 c2"));
        CHECK.same("blue joined", 1, winner("board 3; blue a2 b2 c1"));
        CHECK.same("blue not joined from above to below", -1, winner("board 3; blue a1 a2 a3"));
        CHECK.same("a way round", 0,
            winner("board 5; red a1 a2 a3 b3 c3 d2 e2 e3 e4 d5; blue a4 b4 c4 d3 b2 c2"));
        CHECK.same("broken just once", -1,
            winner("board 5; red a1 a2 a3 b3 c3 d2 e2 e4 d5; blue a4 b4 c4 d3 b2 c2"));
        HexArbiter arbiter = Check.loaded("board 3; red b1 b2");
        arbiter.giveUp();
        CHECK.same("the other one wins", 1, arbiter.size(6));
        arbiter.put(6, 0);
        CHECK.same("the one that gave up has joined nevertheless", 0, arbiter.size(6));
        arbiter.put(6, -1);
        CHECK.same("and is cut again", 1, arbiter.size(6));
    }

    private static int winner(String text) {
        return Check.loaded(text).size(6);
    }

    /** Promise 7. */
    private static void cells() {
        HexArbiter arbiter = Check.loaded("board 3; red b1; blue c2 a3");
        int[] due = {-1, 0, -1, -1, -1, 1, 1, -1, -1};
        for (int cell = 0; cell < due.length; cell++) {
            CHECK.same("cell(" + cell + ")", due[cell], arbiter.cell(cell));
        }
        for (int cell : new int[] {-1, 9, 80, Integer.MIN_VALUE, Integer.MAX_VALUE}) {
            CHECK.outside("cell(" + cell + ")", () -> arbiter.cell(cell));
        }
        HexArbiter large = Check.loaded("board 9; blue i9");
        CHECK.same("the last cell", 1, large.cell(80));
        CHECK.outside("cell(81)", () -> large.cell(81));
        Check.load(large, "board 3");
        CHECK.outside("behind a smaller board", () -> large.cell(9));
    }

    /** Promise 8. */
    private static void neighbours() {
        HexArbiter arbiter = Check.loaded("board 4");
        neighboursAre(arbiter, 0, 1, 4);
        neighboursAre(arbiter, 3, 2, 6, 7);
        neighboursAre(arbiter, 5, 1, 2, 4, 6, 8, 9);
        neighboursAre(arbiter, 7, 3, 6, 10, 11);
        neighboursAre(arbiter, 8, 4, 5, 9, 12);
        neighboursAre(arbiter, 12, 8, 9, 13);
        neighboursAre(arbiter, 15, 11, 14);
        CHECK.outside("neighbour(16, 0)", () -> arbiter.neighbour(16, 0));
        CHECK.outside("neighbour(-1, 0)", () -> arbiter.neighbour(-1, 0));
        CHECK.outside("neighbour(16, 9)", () -> arbiter.neighbour(16, 9));
        HexArbiter small = new HexArbiter();
        neighboursAre(small, 0, 1, 2);
        neighboursAre(small, 1, 0, 2, 3);
        neighboursAre(small, 2, 0, 1, 3);
        neighboursAre(small, 3, 1, 2);
        arbiter.saveSnapshot(0);
        Check.load(arbiter, "board 9");
        neighboursAre(arbiter, 5, 4, 6, 13, 14);
        arbiter.restoreSnapshot(0);
        neighboursAre(arbiter, 5, 1, 2, 4, 6, 8, 9);
    }

    private static void neighboursAre(HexArbiter arbiter, int cell, int... due) {
        for (int index = 0; index < due.length; index++) {
            CHECK.same("neighbour(" + cell + ", " + index + ")", due[index], arbiter.neighbour(cell, index));
        }
        for (int index : new int[] {due.length, 6, 7, -1, Integer.MIN_VALUE, Integer.MAX_VALUE}) {
            CHECK.same("neighbour(" + cell + ", " + index + ")", -1, arbiter.neighbour(cell, index));
        }
    }

    /** Promise 9. */
    private static void groupNumbers() {
        HexArbiter arbiter = Check.loaded("board 4; red c1 b2 a3 d3; blue a1 d1 d2");
        groupIs(arbiter, 9, -1, -1, -1, -1);
        groupIs(arbiter, 2, 2, 3, 5, 1);
        groupIs(arbiter, 8, 2, 3, 5, 1);
        groupIs(arbiter, 11, 11, 1, 3, 0);
        groupIs(arbiter, 0, 0, 1, 2, 1);
        groupIs(arbiter, 7, 3, 2, 2, 2);
        arbiter.put(12, 0);
        groupIs(arbiter, 5, 2, 4, 5, 3);
        groupIs(Check.loaded("board 2; red a2"), 2, 2, 1, 3, 2);
        groupIs(Check.loaded("board 2; blue b2 a1"), 0, 0, 1, 2, 1);
        for (int what : new int[] {-1, 4, Integer.MIN_VALUE, Integer.MAX_VALUE}) {
            CHECK.illegal("group of a stone", () -> arbiter.group(0, what));
            CHECK.illegal("group of a free cell", () -> arbiter.group(9, what));
            CHECK.outside("group of no cell", () -> arbiter.group(16, what));
        }
        CHECK.outside("group(-1, 0)", () -> arbiter.group(-1, 0));
    }

    private static void groupIs(HexArbiter arbiter, int cell, int... due) {
        for (int what = 0; what < due.length; what++) {
            CHECK.same("group(" + cell + ", " + what + ")", due[what], arbiter.group(cell, what));
        }
    }

    /** Promises 10 and 11. */
    private static void groupCounts() {
        HexArbiter arbiter = Check.loaded("board 4; red c1 b2 a3 d3; blue a1 d1 d2 b4 a4");
        CHECK.same("groups(0)", 2, arbiter.groups(0));
        CHECK.same("groups(1)", 3, arbiter.groups(1));
        CHECK.same("largest(0)", 2, arbiter.largest(0));
        CHECK.same("largest(1), the least of two", 3, arbiter.largest(1));
        arbiter.put(14, 1);
        CHECK.same("largest(1), not the least one", 12, arbiter.largest(1));
        CHECK.same("largest(0) of a single stone", 8, Check.loaded("board 3; red c3").largest(0));
        CHECK.same("largest(0) at the first cell", 0, Check.loaded("board 3; red a1 c3").largest(0));
        HexArbiter empty = new HexArbiter();
        CHECK.same("no groups", 0, empty.groups(1));
        CHECK.same("no largest one", -1, empty.largest(0));
        for (int side : new int[] {-1, 2, Integer.MIN_VALUE, Integer.MAX_VALUE}) {
            CHECK.illegal("groups(" + side + ")", () -> arbiter.groups(side));
            CHECK.illegal("largest(" + side + ")", () -> arbiter.largest(side));
        }
    }
}
