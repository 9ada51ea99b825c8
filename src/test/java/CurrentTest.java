/** Promises 26 to 29: potentials and currents. */
public final class CurrentTest {
    private static final Check CHECK = new Check();

    public static void main(String[] args) {
        potentials();
        cellsAlone();
        currents();
        resistances();
        balances();
        wrongInputs();
        CHECK.end("CurrentTest");
    }

    /** Promise 26; the numbers are worked out by hand. */
    private static void potentials() {
        potentialsAre("board 2", 0, 0, 500000, 500000, 500000, 500000);
        potentialsAre("board 2", 0, 1, 333333, 333333, 541666, 624999);
        potentialsAre("board 2", 1, 1, 333333, 583333, 354166, 645833);
        potentialsAre("board 2", 1, 2, 312499, 578124, 384114, 654079);
        potentialsAre("board 2; red a1", 0, 0, 500000, 500000, 500000, 500000);
        potentialsAre("board 2; red a1", 0, 1, 333333, 333333, 472222, 601851);
        potentialsAre("board 2; red a1", 1, 0, -1, 500000, 500000, 500000);
        potentialsAre("board 2; red a1", 1, 1, -1, 666666, 388888, 685184);
        potentialsAre("board 2; red a1", 1, 2, -1, 691357, 458847, 716734);
    }

    private static void potentialsAre(String text, int side, int sweeps, int... due) {
        HexArbiter arbiter = Check.loaded(text);
        for (int cell = 0; cell < due.length; cell++) {
            String call = text + ": potential(" + side + ", " + cell + ", " + sweeps + ")";
            CHECK.same(call, due[cell], arbiter.potential(side, cell, sweeps));
        }
    }

    private static void cellsAlone() {
        HexArbiter ring = Check.loaded("board 5; blue b3 d3 c2 c4 d2 b4");
        CHECK.same("without neighbours it stays", 500000, ring.potential(0, 12, 100));
        HexArbiter corners = Check.loaded("board 3; blue b1 a2 c2 b3");
        CHECK.same("at the edge 0 alone", 0, corners.potential(0, 0, 1));
        CHECK.same("at the edge 1 alone", 1000000, corners.potential(0, 8, 1));
        CHECK.same("at the edge 1 alone, at first", 500000, corners.potential(0, 8, 0));
    }

    /** Promise 27. */
    private static void currents() {
        currentIs("board 2", 0, 0, 1000000);
        currentIs("board 2", 0, 1, 666666);
        currentIs("board 2", 1, 1, 687499);
        currentIs("board 2", 1, 2, 696613);
        currentIs("board 2; red a1", 0, 0, 2000000);
        currentIs("board 2; red a1", 0, 1, 1333332);
        currentIs("board 2; red a1", 1, 1, 388888);
        currentIs("board 2; blue a1 b1", 0, 0, 0);
        currentIs("board 2; blue a1 b1", 0, 100, 0);
        currentIs("board 9; red a1 b1 c1 d1 e1 f1 g1 h1 i1", 0, 0, 13500000);
        HexArbiter arbiter = Check.loaded("board 9; red e2 e3 f7; blue d5 c6 g3");
        Reference reference = new Reference();
        for (String part : new String[] {"board 9;", " red e2 ", "e3 f7; ", "blue d5 ", "c6 g3"}) {
            reference.append(packed(part));
        }
        reference.load();
        for (int sweeps = 0; sweeps <= 100; sweeps++) {
            CHECK.same("red, " + sweeps, reference.current(0, sweeps), arbiter.current(0, sweeps));
            CHECK.same("blue, " + sweeps, reference.current(1, sweeps), arbiter.current(1, sweeps));
        }
    }

    private static long packed(String text) {
        long bytes = 0;
        for (char one : text.toCharArray()) {
            bytes = bytes << 8 | one;
        }
        return bytes;
    }

    private static void currentIs(String text, int side, int sweeps, int due) {
        String call = text + ": current(" + side + ", " + sweeps + ")";
        CHECK.same(call, due, Check.loaded(text).current(side, sweeps));
    }

    /** Promise 28. */
    private static void resistances() {
        CHECK.same("resistance(0, 0)", 1.0f, new HexArbiter().resistance(0, 0));
        CHECK.same("resistance(0, 1)", 1000000.0f / 666666.0f, new HexArbiter().resistance(0, 1));
        CHECK.same("resistance(1, 1)", 1000000.0f / 687499.0f, new HexArbiter().resistance(1, 1));
        CHECK.same("no current", 0.0f, Check.loaded("board 2; blue a1 b1").resistance(0, 5));
        CHECK.same("much current", 1000000.0f / 13500000.0f,
            Check.loaded("board 9; red a1 b1 c1 d1 e1 f1 g1 h1 i1").resistance(0, 0));
    }

    /** Promise 29. */
    private static void balances() {
        CHECK.same("balance(0)", 0.5, new HexArbiter().balance(0));
        CHECK.same("balance(1)", 666666.0 / (666666.0 + 687499.0), new HexArbiter().balance(1));
        HexArbiter arbiter = Check.loaded("board 2; red a1");
        CHECK.same("with a stone", 1333332.0 / (1333332.0 + 388888.0), arbiter.balance(1));
        CHECK.same("red has none", 0.0, Check.loaded("board 2; blue a1 b1").balance(3));
        CHECK.same("blue has none", 1.0, Check.loaded("board 2; red a1 a2").balance(3));
    }

    private static void wrongInputs() {
        HexArbiter arbiter = new HexArbiter();
        for (int bad : new int[] {-1, 2, Integer.MIN_VALUE, Integer.MAX_VALUE}) {
            CHECK.illegal("potential of side " + bad, () -> arbiter.potential(bad, 0, 0));
            CHECK.illegal("potential of side " + bad + " and no cell", () -> arbiter.potential(bad, 9, 0));
            CHECK.illegal("current of side " + bad, () -> arbiter.current(bad, 0));
            CHECK.illegal("resistance of side " + bad, () -> arbiter.resistance(bad, 0));
        }
        for (int bad : new int[] {-1, 101, Integer.MIN_VALUE, Integer.MAX_VALUE}) {
            CHECK.illegal("potential behind " + bad, () -> arbiter.potential(0, 0, bad));
            CHECK.illegal("potential of no cell behind " + bad, () -> arbiter.potential(0, -1, bad));
            CHECK.illegal("current behind " + bad, () -> arbiter.current(0, bad));
            CHECK.illegal("resistance behind " + bad, () -> arbiter.resistance(0, bad));
            CHECK.illegal("balance behind " + bad, () -> arbiter.balance(bad));
        }
        CHECK.outside("potential(0, 4, 0)", () -> arbiter.potential(0, 4, 0));
        CHECK.outside("potential(0, -1, 100)", () -> arbiter.potential(0, -1, 100));
    }
}
