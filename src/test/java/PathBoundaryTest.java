/**
 * The boundary cases of section 4 and of promises 22 to 29: a method for each sentence of the document,
 * which stands above it. That both currents are 0 (promise 29) has no test: from the edge 0 to the edge 1
 * there is always a way for one of the sides, and then its current is not 0.
 */
public final class PathBoundaryTest {
    private static final Check CHECK = new Check();
    private static final int[] FAR = {-1, Integer.MIN_VALUE, Integer.MAX_VALUE};
    // red reaches d2 from c2 alone
    private static final String POCKET = "board 4; blue d1 c3 d3";
    private static final String WALL = "board 3; blue a2 b2 c2";

    public static void main(String[] args) {
        pathsOfASide();
        itCostsAsManyAsItsFreeCells();
        oneAsOftenAsItIsInTheRow();
        distanceWithoutAPath();
        distanceOfNoSide();
        throughWithoutAPath();
        throughWithWrongArguments();
        usefulCells();
        usefulOfNoSide();
        sharedOfSeveral();
        sharedWithoutOne();
        potentialsAtFirst();
        potentialsByTheirNumbers();
        weightsOfStones();
        edgesOfACell();
        withoutAnyOfTheseItStays();
        potentialOfTheOtherSide();
        sweepsUpTo100();
        potentialWithWrongArguments();
        theCurrentIsTheSum();
        currentWithWrongArguments();
        resistanceWithoutCurrent();
        balanceOfBoth();
        CHECK.end("PathBoundaryTest");
    }

    private static void distancesAre(String text, int red, int blue) {
        HexArbiter arbiter = Check.loaded(text);
        CHECK.same(text + ": distance(0)", red, arbiter.distance(0));
        CHECK.same(text + ": distance(1)", blue, arbiter.distance(1));
    }

    private static void throughIs(String text, int side, int... due) {
        HexArbiter arbiter = Check.loaded(text);
        for (int cell = 0; cell < due.length; cell++) {
            CHECK.same(text + ": through(" + side + ", " + cell + ")", due[cell], arbiter.through(side, cell));
        }
    }

    /** "cells that are free or have its stones, each one a neighbour of the one ahead, from its edge 0 to ..." */
    private static void pathsOfASide() {
        distancesAre("board 2", 2, 2);
        distancesAre("board 2; red a1 b2; blue b1", 1, 1);
        distancesAre("board 2; blue a1 b2; red b1", 1, 1);
        distancesAre("board 2; red a1; blue b2", 1, 1);
        distancesAre("board 2; red b2; blue a1", 1, 1);
        distancesAre("board 2; red b2; blue b1", 2, 1);
        distancesAre("board 3; blue b1 b2", 3, 2);
        distancesAre("board 3; blue a2 b2", 3, 1);
        distancesAre("board 3; blue a2 b2; red c1 c3", 1, 1);
    }

    /** "It costs as many as its free cells are" */
    private static void itCostsAsManyAsItsFreeCells() {
        for (int size = 2; size <= 9; size++) {
            distancesAre("board " + size, size, size);
        }
        distancesAre("board 3; red a1 a2 a3", 0, -1);
        distancesAre("board 3; red a1 a2", 1, 3);
        distancesAre("board 3; red a1 a3", 1, 3);
        distancesAre("board 3; red a1", 2, 3);
        distancesAre("board 2; red a1 b1 a2 b2", 0, -1);
    }

    /** "(one as often as it is in the row)" */
    private static void oneAsOftenAsItIsInTheRow() {
        throughIs(POCKET, 0, 4, 4, 4, -1, 4, 4, 4, 6, 4, 4, -1, -1, 4, 4, 5, 6);
        // a stone of its own costs nothing, as often as it is in the row
        throughIs(POCKET + "; red c2", 0, 4, 4, 3, -1, 4, 4, 3, 4, 4, 3, -1, -1, 3, 3, 4, 5);
    }

    /** Promise 22: "NONE if there is no path" */
    private static void distanceWithoutAPath() {
        distancesAre(WALL, -1, 0);
        distancesAre("board 3; red b1 b2 b3", 0, -1);
        distancesAre("board 2; blue a1 b1", -1, 0);
        distancesAre("board 2; red b1 a2", 0, -1);
        distancesAre("board 9; blue a5 b5 c5 d5 e5 f5 g5 h5", 9, 1);
        distancesAre("board 9; blue a5 b5 c5 d5 e5 f5 g5 h5 i5", -1, 0);
        distancesAre("board 2; red a1; blue b1 a2 b2", -1, 0);
    }

    /** Promise 22: "IllegalArgumentException if side is out of range" */
    private static void distanceOfNoSide() {
        HexArbiter arbiter = new HexArbiter();
        CHECK.illegal("distance(2)", () -> arbiter.distance(2));
        for (int side : FAR) {
            CHECK.illegal("distance(" + side + ")", () -> arbiter.distance(side));
        }
    }

    /** Promise 23: "NONE if there is none" */
    private static void throughWithoutAPath() {
        throughIs(WALL, 0, -1, -1, -1, -1, -1, -1, -1, -1, -1);
        throughIs(WALL, 1, 1, 1, 1, 0, 0, 0, 1, 1, 1);
        // a cell with a stone of the other side, and one that cannot be reached
        throughIs("board 3; blue b1 a2", 0, -1, -1, 3, -1, 3, 3, 3, 3, 3);
        throughIs("board 3; blue b1 a2", 1, 2, 1, 1, 1, 2, 2, 2, 3, 3);
        throughIs("board 2; red a1 b1 a2 b2", 0, 0, 0, 0, 0);
        throughIs("board 2; red a1 b1 a2 b2", 1, -1, -1, -1, -1);
    }

    /** Promise 23: "IllegalArgumentException if side ...", then "IndexOutOfBoundsException if there is no such cell" */
    private static void throughWithWrongArguments() {
        HexArbiter arbiter = Check.loaded("board 3");
        CHECK.same("the last cell", 3, arbiter.through(1, 8));
        CHECK.illegal("through(2, 8)", () -> arbiter.through(2, 8));
        CHECK.outside("through(1, 9)", () -> arbiter.through(1, 9));
        CHECK.illegal("through(2, 9), both", () -> arbiter.through(2, 9));
        for (int far : FAR) {
            CHECK.illegal("through(" + far + ", 0)", () -> arbiter.through(far, 0));
            CHECK.outside("through(0, " + far + ")", () -> arbiter.through(0, far));
            CHECK.illegal("through(" + far + ", " + far + ")", () -> arbiter.through(far, far));
        }
    }

    private static void usefulIs(String text, int red, int blue) {
        HexArbiter arbiter = Check.loaded(text);
        CHECK.same(text + ": useful(0)", red, arbiter.useful(0));
        CHECK.same(text + ": useful(1)", blue, arbiter.useful(1));
    }

    /** Promise 24: "Counts the free cells that are in some path of a side of the least cost." */
    private static void usefulCells() {
        usefulIs("board 2", 4, 4);
        usefulIs("board 9", 81, 81);
        usefulIs(WALL, 0, 0);
        usefulIs("board 2; red a1 b1; blue a2 b2", 0, 0);
        usefulIs("board 3; red a1 a2", 1, 6);
        usefulIs("board 3; red a1 a2 c1", 1, 5);
        usefulIs("board 3; red b1 b2", 2, 4);
        usefulIs(POCKET, 10, 4);
    }

    /** Promise 24: "IllegalArgumentException if side is out of range" */
    private static void usefulOfNoSide() {
        HexArbiter arbiter = new HexArbiter();
        CHECK.illegal("useful(2)", () -> arbiter.useful(2));
        for (int side : FAR) {
            CHECK.illegal("useful(" + side + ")", () -> arbiter.useful(side));
        }
    }

    private static void sharedIs(String text, int due) {
        CHECK.same(text + ": shared()", due, Check.loaded(text).shared());
    }

    /** Promise 25: "of several the lowest one" */
    private static void sharedOfSeveral() {
        sharedIs("board 2", 0);
        sharedIs("board 9", 0);
        sharedIs("board 2; red a1; blue b1", 2);
        sharedIs("board 3; red a1", 3);
        sharedIs("board 3; red c3", 2);
        // a1 is in paths of both, too, but the least sum is at the last cell
        sharedIs("board 2; blue a2; red b1", 3);
        sharedIs("board 2; red a1 b1; blue a2", 3);
    }

    /** Promise 25: "NONE if no free cell is in paths of both" */
    private static void sharedWithoutOne() {
        sharedIs(WALL, -1);
        sharedIs("board 3; red b1 b2 b3", -1);
        sharedIs("board 2; red a1 b2; blue b1 a2", -1);
        sharedIs("board 2; red a1 b1 a2 b2", -1);
        sharedIs("board 3; red b1 b2 b3; blue a1 a2 a3 c1 c2 c3", -1);
    }

    private static void potentialsAre(String text, int side, int sweeps, int... due) {
        HexArbiter arbiter = Check.loaded(text);
        for (int cell = 0; cell < due.length; cell++) {
            String call = text + ": potential(" + side + ", " + cell + ", " + sweeps + ")";
            CHECK.same(call, due[cell], arbiter.potential(side, cell, sweeps));
        }
    }

    /** "Each cell that is free or has its stone has a potential, 500000 at first." */
    private static void potentialsAtFirst() {
        potentialsAre("board 2; red a1; blue b2", 0, 0, 500000, 500000, 500000, -1);
        potentialsAre("board 2; red a1; blue b2", 1, 0, -1, 500000, 500000, 500000);
        potentialsAre("board 2; red a1 b1 a2 b2", 1, 0, -1, -1, -1, -1);
        potentialsAre("board 2; red a1 b1 a2 b2", 0, 0, 500000, 500000, 500000, 500000);
    }

    /** "A sweep goes through these cells by their numbers; the potential of each one becomes the sum ..." */
    private static void potentialsByTheirNumbers() {
        // a1: (500000 + 500000) / 3; b1: (333333 + 500000 + 500000) / 4; a2: (333333 + 333333 + 500000 + 1000000) / 4
        potentialsAre("board 2", 0, 1, 333333, 333333, 541666, 624999);
        potentialsAre("board 2", 1, 1, 333333, 583333, 354166, 645833);
    }

    /** "a free cell has the weight 1, and one with its stone the weight 3" */
    private static void weightsOfStones() {
        // a1: (3 * 500000 + 500000) / 5; b1: (400000 + 500000 + 500000) / 4
        // a2: (500000 + 400000 + 3 * 350000 + 1000000) / 6; b2: (491666 + 3 * 350000 + 1000000) / 5
        potentialsAre("board 2; red b1", 0, 1, 400000, 350000, 491666, 508333);
        potentialsAre("board 2; blue b1", 0, 1, 250000, -1, 583333, 791666);
        CHECK.same("3 for a stone", 2000000, Check.loaded("board 2; red b1").current(0, 0));
        CHECK.same("1 for a free cell", 1000000, Check.loaded("board 2; red b2").current(0, 0));
        CHECK.same("none of the other side's", 500000, Check.loaded("board 2; blue b1").current(0, 0));
    }

    /** "and 1000000 for each of its edges 1 at which it is (0 for the edge 0), ... an edge counting as the weight 1" */
    private static void edgesOfACell() {
        // a1 and c3 stand alone; c1: 500000 / 2; b2: (250000 + 500000) / 2; a3: (375000 + 1000000) / 2
        String corners = "board 3; blue b1 a2 c2 b3";
        potentialsAre(corners, 0, 1, 0, -1, 250000, -1, 375000, -1, 687500, -1, 1000000);
        // the last cell stays from the first sweep on, the others do not
        potentialsAre(corners, 0, 2, 0, -1, 187500, -1, 437500, -1, 718750, -1, 1000000);
        potentialsAre(corners, 0, 3, 0, -1, 218750, -1, 468750, -1, 734375, -1, 1000000);
        CHECK.same("the edge 0 alone", 0, Check.loaded(corners).potential(0, 0, 100));
        CHECK.same("the edge 1 alone", 1000000, Check.loaded(corners).potential(0, 8, 100));
        CHECK.same("a stone at the edge 0 alone", 0, Check.loaded(corners + "; red a1").potential(0, 0, 1));
        CHECK.same("a stone at the edge 1 alone", 1000000, Check.loaded(corners + "; red c3").potential(0, 8, 1));
    }

    /** "without any of these it stays" */
    private static void withoutAnyOfTheseItStays() {
        String ring = "board 5; blue c2 d2 b3 d3 b4 c4";
        CHECK.same("a free cell", 500000, Check.loaded(ring).potential(0, 12, 1));
        CHECK.same("behind 100", 500000, Check.loaded(ring).potential(0, 12, 100));
        CHECK.same("a stone", 500000, Check.loaded(ring + "; red c3").potential(0, 12, 100));
        // it is not at an edge of red's, but at one of blue's
        CHECK.same("at the other side's edge", 500000, Check.loaded("board 3; blue a1 b1 b2 a3").potential(0, 3, 100));
        CHECK.same("turned over", 500000, Check.loaded("board 3; red a1 a2 b2 c1").potential(1, 1, 100));
    }

    /** Promise 26: "NONE if the cell has a stone of the other side" */
    private static void potentialOfTheOtherSide() {
        HexArbiter arbiter = Check.loaded("board 2; red a1; blue b2");
        for (int sweeps : new int[] {0, 1, 100}) {
            CHECK.same("blue's stone, for red", -1, arbiter.potential(0, 3, sweeps));
            CHECK.same("red's stone, for blue", -1, arbiter.potential(1, 0, sweeps));
            CHECK.isTrue("its own stone", arbiter.potential(0, 0, sweeps) >= 0);
            CHECK.isTrue("a free cell", arbiter.potential(0, 1, sweeps) >= 0);
        }
    }

    /** Promises 26 to 29: "sweeps: 0 to 100" */
    private static void sweepsUpTo100() {
        HexArbiter arbiter = Check.loaded("board 9");
        CHECK.same("0 sweeps", 4500000, arbiter.current(0, 0));
        int[] last = {arbiter.current(0, 98), arbiter.current(0, 99), arbiter.current(0, 100)};
        CHECK.isTrue("the sweep 99 is made", last[0] != last[1]);
        CHECK.isTrue("the sweep 100 is made", last[1] != last[2]);
        Reference reference = new Reference();
        reference.append(0x626f617264203920L);
        reference.load();
        for (int sweeps : new int[] {0, 1, 2, 50, 99, 100}) {
            for (int side = 0; side <= 1; side++) {
                CHECK.same("current", reference.current(side, sweeps), arbiter.current(side, sweeps));
                for (int cell = 0; cell < 81; cell += 8) {
                    CHECK.same("potential", reference.potential(side, cell, sweeps),
                        arbiter.potential(side, cell, sweeps));
                }
            }
        }
    }

    /** Promise 26: "IllegalArgumentException if side or sweeps ...", then "IndexOutOfBoundsException ..." */
    private static void potentialWithWrongArguments() {
        HexArbiter arbiter = Check.loaded("board 3");
        CHECK.illegal("potential(2, 0, 0)", () -> arbiter.potential(2, 0, 0));
        CHECK.illegal("potential(0, 0, 101)", () -> arbiter.potential(0, 0, 101));
        CHECK.outside("potential(0, 9, 0)", () -> arbiter.potential(0, 9, 0));
        CHECK.illegal("potential(2, 9, 0), both", () -> arbiter.potential(2, 9, 0));
        CHECK.illegal("potential(0, 9, 101), both", () -> arbiter.potential(0, 9, 101));
        for (int far : FAR) {
            CHECK.illegal("potential(" + far + ", 0, 0)", () -> arbiter.potential(far, 0, 0));
            CHECK.outside("potential(0, " + far + ", 0)", () -> arbiter.potential(0, far, 0));
            CHECK.illegal("potential(0, 0, " + far + ")", () -> arbiter.potential(0, 0, far));
            CHECK.illegal("potential(0, " + far + ", " + far + ")", () -> arbiter.potential(0, far, far));
        }
    }

    /** Promise 27, and "The current is the sum, over these cells at the edge 0, of their weight times ..." */
    private static void theCurrentIsTheSum() {
        CHECK.same("no such cells", 0, Check.loaded("board 2; blue a1 b1").current(0, 0));
        CHECK.same("no such cells of blue", 0, Check.loaded("board 2; red a1 a2").current(1, 100));
        CHECK.same("one", 500000, Check.loaded("board 2; blue a1").current(0, 0));
        CHECK.same("one with a stone", 1500000, Check.loaded("board 2; blue a1; red b1").current(0, 0));
        CHECK.same("the most", 13500000, Check.loaded("board 9; red a1b1c1d1e1f1g1h1i1").current(0, 0));
        CHECK.same("the most of blue", 13500000, Check.loaded("board 9; blue a1a2a3a4a5a6a7a8a9").current(1, 0));
        CHECK.same("at the edge 0 alone", 1000000, Check.loaded("board 2; red a2 b2").current(0, 0));
        // no way to the edge 1
        CHECK.same("the cells at the edge 0 run out", 0, Check.loaded("board 2; blue a2 b2; red a1").current(0, 100));
    }

    /** Promises 27 to 29: "IllegalArgumentException if side or sweeps is out of range" */
    private static void currentWithWrongArguments() {
        HexArbiter arbiter = Check.loaded("board 3");
        CHECK.illegal("current(2, 0)", () -> arbiter.current(2, 0));
        CHECK.illegal("current(0, 101)", () -> arbiter.current(0, 101));
        CHECK.illegal("resistance(2, 0)", () -> arbiter.resistance(2, 0));
        CHECK.illegal("resistance(0, 101)", () -> arbiter.resistance(0, 101));
        CHECK.illegal("balance(101)", () -> arbiter.balance(101));
        for (int far : FAR) {
            CHECK.illegal("current(" + far + ", 0)", () -> arbiter.current(far, 0));
            CHECK.illegal("current(0, " + far + ")", () -> arbiter.current(0, far));
            CHECK.illegal("resistance(" + far + ", 0)", () -> arbiter.resistance(far, 0));
            CHECK.illegal("resistance(0, " + far + ")", () -> arbiter.resistance(0, far));
            CHECK.illegal("balance(" + far + ")", () -> arbiter.balance(far));
        }
    }

    /** Promise 28: "Returns 1000000.0f / (float) (its current); 0.0f if that is 0." */
    private static void resistanceWithoutCurrent() {
        CHECK.same("without current", 0.0f, Check.loaded("board 2; blue a1 b1").resistance(0, 0));
        CHECK.same("without current, blue", 0.0f, Check.loaded("board 2; red a1 a2").resistance(1, 100));
        CHECK.same("the current is 1000000", 1.0f, new HexArbiter().resistance(0, 0));
        CHECK.same("the most current", 1000000.0f / 13500000.0f,
            Check.loaded("board 9; red a1b1c1d1e1f1g1h1i1").resistance(0, 0));
        HexArbiter nine = Check.loaded("board 9; red e5; blue c3");
        CHECK.same("behind 100", 1000000.0f / (float) nine.current(1, 100), nine.resistance(1, 100));
    }

    /** Promise 29: "(double) (the current of red) / (double) (both currents, added); 0.5 if both are 0" */
    private static void balanceOfBoth() {
        CHECK.same("both alike", 0.5, new HexArbiter().balance(0));
        CHECK.same("red has none", 0.0, Check.loaded("board 2; blue a1 b1").balance(0));
        CHECK.same("blue has none", 1.0, Check.loaded("board 2; red a1 a2").balance(0));
        CHECK.same("red has none behind 100", 0.0, Check.loaded("board 2; blue a1 b1").balance(100));
        CHECK.same("blue has none behind 100", 1.0, Check.loaded("board 2; red a1 a2").balance(100));
        HexArbiter nine = Check.loaded("board 9; red e5; blue c3");
        int red = nine.current(0, 100);
        int blue = nine.current(1, 100);
        CHECK.same("behind 100", (double) red / (double) (red + blue), nine.balance(100));
    }
}
