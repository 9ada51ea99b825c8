import java.math.BigInteger;

/**
 * The boundary cases of section 5 and of promises 30 to 35: a method for each sentence of the document,
 * which stands above it.
 */
public final class FillingBoundaryTest {
    private static final Check CHECK = new Check();
    // whoever has the cell a2 has joined
    private static final String ONE_CELL = "board 2; red b1; blue a1 b2";
    // red has joined with one of the cells a3 and b3, blue with both of them
    private static final String TWO_CELLS = "board 3; red b1 b2; blue a1 a2 c1 c2 c3";
    private static final int MOST = Integer.MAX_VALUE;

    public static void main(String[] args) {
        atMost6CellsAreFree();
        upToTheLastCell();
        aSingleCellIsFree();
        noCellIsFree();
        theGameIsOver();
        whoseTurnItIs();
        goodMovesOfAllAndOfNone();
        theLowestGoodMove();
        fillingsGoByTheirNumbers();
        evenAndOdd();
        xWrapsAround();
        eachFreeCellByNumbers();
        filledThoughTheGameIsOver();
        filledOutOfRange();
        eachFillingGoesOn();
        fillingsFrom1To100();
        fillingsWithoutFreeCells();
        fillingsOutOfRange();
        idleEachByItself();
        idleOfAllAndOfNone();
        idleOutOfRange();
        CHECK.end("FillingBoundaryTest");
    }

    private static void solvedIs(String text, int side, int many, int best) {
        // an object for each, so that none is answered by what another one has found out
        CHECK.same(text + ": solved()", side, Check.loaded(text).solved());
        CHECK.same(text + ": goodMoves()", many, Check.loaded(text).goodMoves());
        CHECK.same(text + ": bestMove()", best, Check.loaded(text).bestMove());
    }

    /** "If at most 6 cells are free", promises 30 to 32: "NONE if more than 6 are" */
    private static void atMost6CellsAreFree() {
        solvedIs("board 3; red b1 b2; blue a1", 0, 6, 2);
        solvedIs("board 3; red b1 b2", -1, -1, -1);
        solvedIs("board 3; red b1 b2; turn blue", -1, -1, -1);
        solvedIs("board 9", -1, -1, -1);
        HexArbiter arbiter = Check.loaded("board 3; red b1 b2; blue a1");
        arbiter.put(0, -1);
        CHECK.same("7 are free: solved()", -1, arbiter.solved());
        CHECK.same("7 are free: goodMoves()", -1, arbiter.goodMoves());
        CHECK.same("7 are free: bestMove()", -1, arbiter.bestMove());
        arbiter.put(8, 1);
        CHECK.same("6 are free: solved()", 0, arbiter.solved());
        CHECK.same("6 are free: goodMoves()", 6, arbiter.goodMoves());
        CHECK.same("6 are free: bestMove()", 0, arbiter.bestMove());
        // columns of both sides in turn, but for the row 4; blue cannot close two of red's columns there
        HexArbiter nine = Check.loaded("board 9; turn blue");
        for (int cell = 0; cell < 81; cell++) {
            if (cell / 9 != 4) {
                nine.put(cell, cell % 9 % 2);
            }
        }
        nine.put(36, 1);
        nine.put(40, 1);
        CHECK.same("7 are free on a board of 9", 7, nine.size(3));
        CHECK.same("7 are free on a board of 9", -1, nine.solved());
        nine.put(44, 1);
        CHECK.same("6 are free on a board of 9", 6, nine.size(3));
        CHECK.same("6 are free on a board of 9", 0, nine.solved());
    }

    /** "both sides put stones in turn ... until one has joined": also in the last one of the 6 cells */
    private static void upToTheLastCell() {
        // three bridges of red, all of which it needs
        String bridges = "board 5; red d2 c4; blue a1 b1 c1 a2 b2 c2 e2 a3 b3 e3 a4 b4 d4 e4 a5 d5 e5";
        solvedIs(bridges + "; turn blue", 0, 0, -1);
        solvedIs(bridges + "; turn red", 0, 6, 3);
        // and one of them entered: red has to answer there, and cannot answer twice
        solvedIs(bridges + "; turn blue; move d1", 0, 1, 4);
        solvedIs(bridges + "; turn blue; move d1; turn blue", 1, 5, 4);
    }

    /** Section 5 with the fewest cells that can be free, if the game is not over. */
    private static void aSingleCellIsFree() {
        solvedIs(ONE_CELL, 0, 1, 2);
        solvedIs(ONE_CELL + "; turn blue", 1, 1, 2);
        solvedIs("board 2; blue a1 a2; red b1", 0, 1, 3);
        solvedIs("board 2; blue a1 a2; red b1; turn blue", 1, 1, 3);
    }

    /** "and the game is not over": with no free cell it always is */
    private static void noCellIsFree() {
        solvedIs("board 2; red a1 b1 a2 b2", 0, 0, -1);
        solvedIs("board 2; red a1 b2; blue b1 a2", 1, 0, -1);
        solvedIs("board 2; red b1 a2; blue a1 b2; turn blue", 0, 0, -1);
    }

    /** Promises 30 to 32: "the winner if the game is over, however many cells are free", "0 if ...", "NONE" */
    private static void theGameIsOver() {
        solvedIs("board 9; red a1a2a3a4a5a6a7a8a9", 0, 0, -1);
        solvedIs("board 9; blue a1b1c1d1e1f1g1h1i1", 1, 0, -1);
        solvedIs("board 2; red a1 a2; turn blue", 0, 0, -1);
        solvedIs("board 2; red a1 a2; turn red", 0, 0, -1);
        for (String text : new String[] {"board 9", "board 2", "board 3; red b1 b2", "board 3; red b1 b2; blue a1"}) {
            HexArbiter arbiter = Check.loaded(text);
            arbiter.giveUp();
            CHECK.same(text + ", given up: solved()", 1, arbiter.solved());
            CHECK.same(text + ", given up: goodMoves()", 0, arbiter.goodMoves());
            CHECK.same(text + ", given up: bestMove()", -1, arbiter.bestMove());
        }
    }

    /** Promise 30: "Tells who joins by the best play from now on" */
    private static void whoseTurnItIs() {
        solvedIs("board 2", 0, 2, 1);
        solvedIs("board 2; turn blue", 1, 2, 1);
        solvedIs("board 2; red b1; turn blue", 0, 0, -1);
        solvedIs("board 2; red a1; turn blue", 1, 1, 2);
    }

    /** Promise 31: "Counts the free cells with which the side whose turn it is joins by the best play from then on." */
    private static void goodMovesOfAllAndOfNone() {
        solvedIs("board 3; red b1 b2; blue a1", 0, 6, 2);
        solvedIs("board 3; red b1 b2; blue a1; turn blue", 0, 0, -1);
        solvedIs("board 2; red b1", 0, 3, 0);
        solvedIs("board 2; blue b1", 1, 0, -1);
    }

    /** Promise 32: "Finds the lowest such cell." */
    private static void theLowestGoodMove() {
        solvedIs("board 2; red a2; blue a1", 0, 1, 1);
        solvedIs("board 2; blue a1; turn red", 0, 1, 1);
        solvedIs("board 2; red b2; blue a2; turn blue", 1, 1, 1);
        solvedIs("board 2; red b2; turn red", 0, 3, 0);
        solvedIs(ONE_CELL.replace("2;", "2;turn blue;"), 1, 1, 2);
    }

    /** The x behind this one, by the document's formula. */
    private static int next(int x) {
        return (int) ((1103515245L * x + 12345L) % 2147483648L);
    }

    /** The x that is ahead of this one. */
    private static int ahead(int x) {
        BigInteger modulus = BigInteger.valueOf(2147483648L);
        BigInteger inverse = BigInteger.valueOf(1103515245L).modInverse(modulus);
        return BigInteger.valueOf(x - 12345L).multiply(inverse).mod(modulus).intValue();
    }

    private static int stone(int x) {
        return x / 65536 % 2 == 0 ? 0 : 1;
    }

    /** "A filling goes with a number x from 0 to 2147483647" */
    private static void fillingsGoByTheirNumbers() {
        HexArbiter arbiter = Check.loaded(ONE_CELL);
        for (int x : new int[] {0, 1, 2, 65535, 65536, 1 << 30, MOST - 1, MOST}) {
            CHECK.same("filled(" + x + ")", stone(next(x)), arbiter.filled(x));
            CHECK.same("fillings(0, " + x + ", 1)", 1 - stone(next(x)), arbiter.fillings(0, x, 1));
            CHECK.same("idle(" + x + ")", 0, arbiter.idle(x));
        }
    }

    /** "a stone of red if x / 65536 (cut) is even, otherwise of blue" */
    private static void evenAndOdd() {
        HexArbiter arbiter = Check.loaded(ONE_CELL);
        int[] numbers = {0, 1, 65535, 65536, 131071, 131072, 196607, 196608, 2147352575, 2147352576, 2147418111,
            2147418112, MOST};
        int[] due = {0, 0, 0, 1, 1, 0, 0, 1, 1, 0, 0, 1, 1};
        for (int index = 0; index < numbers.length; index++) {
            int x = ahead(numbers[index]);
            CHECK.same("the x ahead of it", numbers[index], next(x));
            CHECK.same("x becomes " + numbers[index], due[index], arbiter.filled(x));
        }
    }

    /** "x becomes (1103515245 * x + 12345) modulo 2147483648" */
    private static void xWrapsAround() {
        HexArbiter arbiter = Check.loaded(ONE_CELL);
        // 1103527590 is below the modulus, 3310558080 above it: x becomes 1163074432
        CHECK.same("1", 0, arbiter.filled(1));
        CHECK.same("3", 1, arbiter.filled(3));
        int x = MOST;
        for (int done = 0; done < 100; done++) {
            CHECK.same("filled(" + x + ")", stone(next(x)), arbiter.filled(x));
            x = next(x);
        }
        CHECK.same("x becomes 0 and goes on", 2, arbiter.fillings(0, ahead(0), 2));
        CHECK.same("x becomes the largest one and goes on", 1 - stone(next(MOST)), arbiter.fillings(0, ahead(MOST), 2));
    }

    /** "for each free cell, by numbers" */
    private static void eachFreeCellByNumbers() {
        HexArbiter arbiter = Check.loaded(TWO_CELLS);
        boolean[] seen = new boolean[4];
        for (int x = 0; x < 60; x++) {
            int first = stone(next(x));
            int second = stone(next(next(x)));
            seen[2 * first + second] = true;
            CHECK.same("filled(" + x + ")", first + second == 2 ? 1 : 0, arbiter.filled(x));
        }
        CHECK.isTrue("all pairs of stones were there", seen[0] && seen[1] && seen[2] && seen[3]);
        // the first x is for the lower one of the free cells a2 and b2
        HexArbiter two = Check.loaded("board 2; red b1; blue a1");
        for (int x = 0; x < 60; x++) {
            boolean blue = stone(next(x)) == 1 && stone(next(next(x))) == 1;
            CHECK.same("filled(" + x + ")", blue ? 1 : 0, two.filled(x));
        }
    }

    /** Promise 33: "whether the game is over or not" */
    private static void filledThoughTheGameIsOver() {
        HexArbiter arbiter = Check.loaded(ONE_CELL);
        arbiter.giveUp();
        CHECK.same("given up", 0, arbiter.filled(1));
        CHECK.same("given up", 1, arbiter.filled(3));
        CHECK.same("given up: fillings", 1, arbiter.fillings(1, 3, 1));
        HexArbiter joined = Check.loaded("board 3; blue a1 b1 c1");
        HexArbiter full = Check.loaded("board 2; red b1 a2; blue a1 b2");
        for (int x = 0; x < 20; x++) {
            CHECK.same("joined", 1, joined.filled(x));
            CHECK.same("a full board", 0, full.filled(x));
        }
    }

    /** Promise 33: "IllegalArgumentException if x is out of range" */
    private static void filledOutOfRange() {
        HexArbiter arbiter = new HexArbiter();
        for (int x : new int[] {-1, -2, Integer.MIN_VALUE}) {
            CHECK.illegal("filled(" + x + ")", () -> arbiter.filled(x));
        }
        CHECK.isTrue("filled(0)", arbiter.filled(0) >= 0);
        CHECK.isTrue("filled(2147483647)", arbiter.filled(MOST) >= 0);
    }

    /** Promise 34: "each one going on with the x of the one ahead" */
    private static void eachFillingGoesOn() {
        HexArbiter one = Check.loaded(ONE_CELL);
        HexArbiter two = Check.loaded(TWO_CELLS);
        int x = 77;
        int ofOne = 0;
        int y = 77;
        int ofTwo = 0;
        for (int many = 1; many <= 100; many++) {
            x = next(x);
            ofOne += stone(x);
            CHECK.same("one cell, blue, " + many, ofOne, one.fillings(1, 77, many));
            CHECK.same("one cell, red, " + many, many - ofOne, one.fillings(0, 77, many));
            int first = next(y);
            y = next(first);
            ofTwo += stone(first) * stone(y);
            CHECK.same("two cells, blue, " + many, ofTwo, two.fillings(1, 77, many));
        }
        CHECK.isTrue("both sides", ofOne > 0 && ofOne < 100 && ofTwo > 0 && ofTwo < 100);
    }

    /** Promise 34: "many: 1 to 100" */
    private static void fillingsFrom1To100() {
        HexArbiter arbiter = Check.loaded("board 3; red b1 b2 b3");
        CHECK.same("1", 1, arbiter.fillings(0, 0, 1));
        CHECK.same("100", 100, arbiter.fillings(0, 0, 100));
        CHECK.same("1, blue", 0, arbiter.fillings(1, 0, 1));
        CHECK.same("100, blue", 0, arbiter.fillings(1, 0, 100));
        CHECK.same("from the largest x", 100, arbiter.fillings(0, MOST, 100));
        CHECK.illegal("0", () -> arbiter.fillings(0, 0, 0));
        CHECK.illegal("101", () -> arbiter.fillings(0, 0, 101));
    }

    /** Promise 34, a full board: each filling is the board itself */
    private static void fillingsWithoutFreeCells() {
        HexArbiter full = Check.loaded("board 2; red b1 a2; blue a1 b2");
        CHECK.same("red", 100, full.fillings(0, MOST, 100));
        CHECK.same("blue", 0, full.fillings(1, MOST, 100));
        CHECK.same("once", 1, full.fillings(0, 0, 1));
    }

    /** Promise 34: "IllegalArgumentException if side, x or many is out of range" */
    private static void fillingsOutOfRange() {
        HexArbiter arbiter = new HexArbiter();
        for (int bad : new int[] {-1, 2, Integer.MIN_VALUE, MOST}) {
            CHECK.illegal("fillings(" + bad + ", 0, 1)", () -> arbiter.fillings(bad, 0, 1));
        }
        for (int bad : new int[] {-1, Integer.MIN_VALUE}) {
            CHECK.illegal("fillings(0, " + bad + ", 1)", () -> arbiter.fillings(0, bad, 1));
        }
        for (int bad : new int[] {-1, 0, 101, Integer.MIN_VALUE, MOST}) {
            CHECK.illegal("fillings(0, 0, " + bad + ")", () -> arbiter.fillings(0, 0, bad));
        }
    }

    /** Promise 35: "with a stone of the other side there, the same side has joined (each one by itself)" */
    private static void idleEachByItself() {
        HexArbiter arbiter = Check.loaded(TWO_CELLS);
        for (int x = 0; x < 60; x++) {
            // of two red stones each one can be turned, but not both; of two blue ones none
            int blue = stone(next(x)) + stone(next(next(x)));
            CHECK.same("idle(" + x + ")", 2 - blue, arbiter.idle(x));
        }
    }

    /** Promise 35: "Counts the free cells that make no difference in the next filling" */
    private static void idleOfAllAndOfNone() {
        CHECK.same("all of 6", 6, Check.loaded("board 3; red b1 b2 b3").idle(0));
        CHECK.same("all of 72", 72, Check.loaded("board 9; blue a5b5c5d5e5f5g5h5i5").idle(MOST));
        CHECK.same("none of 1", 0, Check.loaded(ONE_CELL).idle(0));
        CHECK.same("none of 1", 0, Check.loaded(ONE_CELL).idle(MOST));
        CHECK.same("a full board", 0, Check.loaded("board 2; red a1 b1 a2 b2").idle(0));
        HexArbiter given = Check.loaded(TWO_CELLS);
        int before = given.idle(5);
        given.giveUp();
        CHECK.same("though the game is over", before, given.idle(5));
    }

    /** Promise 35: "IllegalArgumentException if x is out of range" */
    private static void idleOutOfRange() {
        HexArbiter arbiter = new HexArbiter();
        for (int x : new int[] {-1, -2, Integer.MIN_VALUE}) {
            CHECK.illegal("idle(" + x + ")", () -> arbiter.idle(x));
        }
        CHECK.isTrue("idle(0)", arbiter.idle(0) >= 0);
        CHECK.isTrue("idle(2147483647)", arbiter.idle(MOST) >= 0);
    }
}
