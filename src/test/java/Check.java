/** Counts the checks of a test and prints those that fail. */
final class Check {
    interface Call {
        Object make();
    }

    private int passed;
    private int failed;

    void same(String name, Object want, Object got) {
        if (want.equals(got)) {
            passed++;
        } else {
            failed++;
            System.out.println(name + ": answered " + got + ", due is " + want);
        }
    }

    void isTrue(String name, boolean got) {
        same(name, true, got);
    }

    /** What a call answers, or throws. */
    static Object outcome(Call call) {
        try {
            return call.make();
        } catch (IllegalArgumentException | IndexOutOfBoundsException e) {
            // the document names just these two, not the machine's own kinds of them
            return "throws " + e.getClass().getSimpleName();
        }
    }

    void illegal(String name, Call call) {
        same(name, "throws IllegalArgumentException", outcome(call));
    }

    void outside(String name, Call call) {
        same(name, "throws IndexOutOfBoundsException", outcome(call));
    }

    /** Ends the test: with the exit code 1 if a check failed. */
    void end(String test) {
        System.out.println(test + ": " + passed + " checks passed, " + failed + " failed");
        if (failed != 0 || passed == 0) {
            System.exit(1);
        }
    }

    /** Appends a text to the input of an arbiter. */
    static void append(HexArbiter arbiter, String text) {
        for (int from = 0; from < text.length(); from += 8) {
            long bytes = 0;
            for (int index = from; index < Math.min(text.length(), from + 8); index++) {
                bytes = bytes << 8 | text.charAt(index);
            }
            arbiter.append(bytes);
        }
    }

    static int load(HexArbiter arbiter, String text) {
        append(arbiter, text);
        return arbiter.load();
    }

    static HexArbiter loaded(String text) {
        HexArbiter arbiter = new HexArbiter();
        int answer = load(arbiter, text);
        if (answer < 0) {
            throw new IllegalStateException("the text of a test has an error: " + text + " " + answer);
        }
        return arbiter;
    }

    static String output(HexArbiter arbiter) {
        StringBuilder text = new StringBuilder();
        for (int index = 0; arbiter.outputByte(index) != HexArbiter.NONE; index++) {
            text.append((char) arbiter.outputByte(index));
        }
        return text.toString();
    }

    /** The rows of the board, one behind the other, with a slash between. */
    static String board(HexArbiter arbiter) {
        StringBuilder text = new StringBuilder();
        int size = arbiter.size(0);
        for (int cell = 0; cell < size * size; cell++) {
            if (cell > 0 && cell % size == 0) {
                text.append('/');
            }
            int stone = arbiter.cell(cell);
            text.append(stone == HexArbiter.RED ? 'r' : stone == HexArbiter.BLUE ? 'b' : '.');
        }
        return text.toString();
    }
}
