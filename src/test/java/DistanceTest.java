/** Promises 22 to 25: the costs of paths. */
public final class DistanceTest {
    private static final Check CHECK = new Check();

    public static void main(String[] args) {
        distances();
        through();
        useful();
        shared();
        CHECK.end("DistanceTest");
    }

    /** Promise 22. */
    private static void distances() {
        distancesAre("board 2", 2, 2);
        distancesAre("board 9", 9, 9);
        distancesAre("board 3; red b1 b3", 1, 3);
        distancesAre("board 3; red b1 b2 b3", 0, -1);
        distancesAre("board 3; blue a2 b2 c2", -1, 0);
        distancesAre("board 3; blue a2 b2", 3, 1);
        // red has to go round: down on the right, to the left, and down again
        distancesAre("board 4; blue a2 b2 c2; blue d4 c4 b4", 5, 1);
        distancesAre("board 5; blue a2 b2 c2 d2 e4 d4 c4 b4", 7, 1);
        distancesAre("board 5; blue a2 b2 c2 d2 e4 d4 c4 b4; red c3 e3", 6, 1);
        HexArbiter arbiter = new HexArbiter();
        for (int side : new int[] {-1, 2, Integer.MIN_VALUE, Integer.MAX_VALUE}) {
            CHECK.illegal("distance(" + side + ")", () -> arbiter.distance(side));
            CHECK.illegal("through(" + side + ", 0)", () -> arbiter.through(side, 0));
            CHECK.illegal("through(" + side + ", 99)", () -> arbiter.through(side, 99));
            CHECK.illegal("useful(" + side + ")", () -> arbiter.useful(side));
        }
    }

    private static void distancesAre(String text, int red, int blue) {
        HexArbiter arbiter = Check.loaded(text);
        CHECK.same(text + ": distance(0)", red, arbiter.distance(0));
        CHECK.same(text + ": distance(1)", blue, arbiter.distance(1));
        arbiter.turnOver();
        CHECK.same(text + ": turned over, distance(0)", blue, arbiter.distance(0));
        CHECK.same(text + ": turned over, distance(1)", red, arbiter.distance(1));
    }

    /** Promise 23. */
    private static void through() {
        throughIs("board 2", 0, 2, 2, 2, 2);
        throughIs("board 3; red b1 b3", 0, 2, 1, 2, 2, 1, 2, 2, 1, 2);
        throughIs("board 3; blue a2 b2", 0, 5, 4, 3, -1, -1, 3, 4, 3, 3);
        throughIs("board 3; blue a2 b2 c2", 0, -1, -1, -1, -1, -1, -1, -1, -1, -1);
        throughIs("board 4; blue a3 b3 c3 d3", 0,
            -1, -1, -1, -1, -1, -1, -1, -1, -1, -1, -1, -1, -1, -1, -1, -1);
        throughIs("board 4; red b1 b2 b3 b4", 1,
            -1, -1, -1, -1, -1, -1, -1, -1, -1, -1, -1, -1, -1, -1, -1, -1);
        // a corner behind a wall can be walked to and back again
        throughIs("board 3; blue b1", 0, 3, -1, 3, 3, 3, 3, 3, 3, 3);
        // this one can't be reached at all
        throughIs("board 3; blue b1 a2; red c1", 0, -1, -1, 2, -1, 2, 2, 2, 2, 2);
        HexArbiter arbiter = Check.loaded("board 3");
        for (int cell : new int[] {-1, 9, Integer.MIN_VALUE, Integer.MAX_VALUE}) {
            CHECK.outside("through(0, " + cell + ")", () -> arbiter.through(0, cell));
        }
    }

    private static void throughIs(String text, int side, int... due) {
        HexArbiter arbiter = Check.loaded(text);
        for (int cell = 0; cell < due.length; cell++) {
            CHECK.same(text + ": through " + cell, due[cell], arbiter.through(side, cell));
        }
    }

    /** Promise 24. */
    private static void useful() {
        usefulIs("board 2", 4, 4);
        usefulIs("board 3; red b1 b3", 1, 5);
        usefulIs("board 3; blue a2 b2 c2", 0, 0);
        usefulIs("board 3; blue a2 b2", 4, 2);
        usefulIs("board 3; red b1 b2", 2, 4);
    }

    private static void usefulIs(String text, int red, int blue) {
        HexArbiter arbiter = Check.loaded(text);
        CHECK.same(text + ": useful(0)", red, arbiter.useful(0));
        CHECK.same(text + ": useful(1)", blue, arbiter.useful(1));
    }

    /** Promise 25. */
    private static void shared() {
        sharedIs("board 2", 0);
        sharedIs("board 3; red b1 b3", 4);
        sharedIs("board 3; red b1 b2", 6);
        sharedIs("board 3; blue a2 b2 c2", -1);
        sharedIs("board 3; red a1 a2 a3; blue c1", -1);
        sharedIs("board 3; blue a2 b2", 2);
        sharedIs("board 2; red a1; blue b1 a2; red b2", -1);
    }

    private static void sharedIs(String text, int due) {
        CHECK.same(text + ": shared()", due, Check.loaded(text).shared());
    }
}
