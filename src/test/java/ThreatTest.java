/** Promises 19 to 21: threats and forced moves. */
public final class ThreatTest {
    private static final Check CHECK = new Check();

    public static void main(String[] args) {
        threats();
        forcedByThreats();
        forcedByBridges();
        CHECK.end("ThreatTest");
    }

    /** Promises 19 and 20. */
    private static void threats() {
        threatsAre("board 3; red a1 a2", 0, 6);
        threatsAre("board 3; red a1 a2", 1);
        threatsAre("board 3; red b1 b2", 0, 6, 7);
        threatsAre("board 3; blue b1 b2 a3", 1, 2, 5);
        threatsAre("board 4; red a1 a2 a4", 0, 8);
        threatsAre("board 5; red a1 b2 b3; red d3 d4 d5", 0);
        threatsAre("board 2; red a2", 0, 0, 1);
        threatsAre("board 2; blue b2", 1, 2);
        threatsAre("board 2; blue b1", 1, 0, 2);
        threatsAre("board 3; red b1 b2 b3", 0);
        threatsAre("board 3; red b1 b2 b3; blue a1 a2", 1);
        threatsAre("board 2; red a1; blue b1", 0, 2);
        threatsAre("board 2; red a1; blue b1", 1, 2);
        HexArbiter arbiter = Check.loaded("board 3; red b1 b2");
        arbiter.giveUp();
        CHECK.same("though red has given up", 2, arbiter.threats(0));
        CHECK.same("the second one", 7, arbiter.threat(0, 1));
        for (int side : new int[] {-1, 2, Integer.MIN_VALUE, Integer.MAX_VALUE}) {
            CHECK.illegal("threats(" + side + ")", () -> arbiter.threats(side));
            CHECK.illegal("threat(" + side + ", 0)", () -> arbiter.threat(side, 0));
        }
    }

    private static void threatsAre(String text, int side, int... due) {
        HexArbiter arbiter = Check.loaded(text);
        CHECK.same(text + ": threats(" + side + ")", due.length, arbiter.threats(side));
        for (int index = 0; index < due.length; index++) {
            CHECK.same(text + ": threat " + index, due[index], arbiter.threat(side, index));
        }
        for (int index : new int[] {due.length, -1, Integer.MIN_VALUE, Integer.MAX_VALUE}) {
            CHECK.same(text + ": threat " + index, -1, arbiter.threat(side, index));
        }
    }

    /** Promise 21. */
    private static void forcedByThreats() {
        forcedIs("nothing", "board 3", -1);
        forcedIs("the first cell of the board", "board 3; red a2 a3", 0);
        forcedIs("its own lowest one", "board 3; red b1 b2", 6);
        forcedIs("one of both sides", "board 2; red a1; blue b1; turn blue", 2);
        forcedIs("the other's only one", "board 3; red a1 a2; turn blue", 6);
        forcedIs("several of the other", "board 3; red b1 b2; turn blue", -1);
        forcedIs("the game is over", "board 3; red b1 b2 b3; turn blue", -1);
        forcedIs("several, and a bridge to answer", "board 4; blue b3; red c1 c2; turn red; move c3", -1);
        HexArbiter arbiter = Check.loaded("board 3; red b1 b2");
        arbiter.giveUp();
        CHECK.same("red has given up", -1, arbiter.forced());
    }

    private static void forcedByBridges() {
        forcedIs("a bridge to an edge", "board 4; red b3; turn blue; move b4", 12);
        forcedIs("its other carrier", "board 4; red b3; turn blue; move a4", 13);
        forcedIs("beside it", "board 4; red b3; turn blue; move c4", -1);
        forcedIs("a bridge between stones", "board 5; red d2 b3 c4; turn blue; move c2", 12);
        forcedIs("of several the one that counts", "board 5; red d2 b3 c4; turn blue; move c3", 7);
        forcedIs("one that does not count", "board 5; red d2 b3 c4; turn blue; move d3", -1);
        forcedIs("a threat ahead of a bridge", "board 4; red b3; blue a1 b1 c1; turn blue; move b4", 3);
        forcedIs("stones that were not moved", "board 4; red b3; blue b4", -1);
        forcedIs("not the latest move", "board 4; red b3; turn blue; move b4 d1 d2", -1);
        HexArbiter arbiter = Check.loaded("board 4; red b3; turn blue; move b4");
        arbiter.setTurn(1);
        CHECK.same("it is the turn of the side that moved", -1, arbiter.forced());
        arbiter.setTurn(0);
        arbiter.put(13, -1);
        CHECK.same("the stone is gone", -1, arbiter.forced());
        arbiter.put(13, 0);
        CHECK.same("the stone is another one's", -1, arbiter.forced());
        arbiter.put(13, 1);
        CHECK.same("the stone is back", 12, arbiter.forced());
        CHECK.same("forced() changes nothing", 1, arbiter.cell(13));
        arbiter.turnOver();
        CHECK.same("turned over", 3, arbiter.forced());
    }

    private static void forcedIs(String name, String text, int due) {
        CHECK.same(name, due, Check.loaded(text).forced());
    }
}
