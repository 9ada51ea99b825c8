/** Counts the checks of a test and prints those that fail. */
final class Check {
    interface Call {
        Object make();
    }

    private int passed;
    private int failed;

    void same(String name, Object want, Object got) {
        if (want.equals(got)) {
            passed++;
        } else {
            failed++;
            System.out.println(name + ": answered " + got + ", due is " + want);
        }
    }

    void isTrue(String name, boolean got) {
        same(name, true, got);
    }

    /** What a call answers, or throws. */
    static Object outcome(Call call) {
        try {
            return call.make();
        } catch (IllegalArgumentException | IndexOutOfBoundsException e) {
            // the document names just these two, not the machine's own kinds of them
            return "throws " + e.getClass().getSimpleName();
        }
    }

    void illegal(String name, Call call) {
        same(name, "throws IllegalArgumentException", outcome(call));
    }

    void outside(String name, Call call) {
        same(name, "throws IndexOutOfBoundsException", outcome(call));
    }

    /** Ends the test: with the exit code 1 if a check failed. */
    void end(String test) {
        System.out.println(test + ": " + passed + " checks passed, " + failed + " failed");
        if (failed != 0 || passed == 0) {
            System.exit(1);
        }
    }

    /** A text with an error, where the sign ^ stands: what load(), loadError() and loadStatement() answer. */
    void textError(String marked, int kind, int statement) {
        int place = marked.indexOf('^');
        String text = marked.substring(0, place) + marked.substring(place + 1);
        HexArbiter arbiter = new HexArbiter();
        same(marked, -100 - place, load(arbiter, text));
        same(marked + ": loadError", kind, arbiter.loadError());
        same(marked + ": loadStatement", statement, arbiter.loadStatement());
    }

    /** size(0), size(1) and so on. */
    void sizes(String name, HexArbiter arbiter, int... due) {
        for (int what = 0; what < due.length; what++) {
            same(name + ": size(" + what + ")", due[what], arbiter.size(what));
        }
    }

    /** Appends a text to the input of an arbiter. */
    static void append(HexArbiter arbiter, String text) {
        for (int from = 0; from < text.length(); from += 8) {
            long bytes = 0;
            for (int index = from; index < Math.min(text.length(), from + 8); index++) {
                bytes = bytes << 8 | text.charAt(index);
            }
            arbiter.append(bytes);
        }
    }

    static int load(HexArbiter arbiter, String text) {
        append(arbiter, text);
        return arbiter.load();
    }

    static HexArbiter loaded(String text) {
        HexArbiter arbiter = new HexArbiter();
        int answer = load(arbiter, text);
        if (answer < 0) {
            throw new IllegalStateException("the text of a test has an error: " + text + " " + answer);
        }
        return arbiter;
    }

    static String output(HexArbiter arbiter) {
        StringBuilder text = new StringBuilder();
        for (int index = 0; arbiter.outputByte(index) != HexArbiter.NONE; index++) {
            text.append((char) arbiter.outputByte(index));
        }
        return text.toString();
    }

    /** The rows of the board, one behind the other, with a slash between. */
    static String board(HexArbiter arbiter) {
        StringBuilder text = new StringBuilder();
        int size = arbiter.size(0);
        for (int cell = 0; cell < size * size; cell++) {
            if (cell > 0 && cell % size == 0) {
                text.append('/');
            }
            int stone = arbiter.cell(cell);
            text.append(stone == HexArbiter.RED ? 'r' : stone == HexArbiter.BLUE ? 'b' : '.');
        }
        return text.toString();
    }

    /** All that can be seen of a position and the output, without changing them. */
    static String seen(HexArbiter arbiter) {
        StringBuilder text = new StringBuilder(board(arbiter));
        for (int what = 4; what <= 9; what++) {
            text.append(' ').append(arbiter.size(what));
        }
        text.append(" moves");
        for (int index = 0; index < arbiter.size(4); index++) {
            text.append(' ').append(arbiter.moveAt(index));
        }
        return text.append(" output ").append(output(arbiter)).toString();
    }

    /** All that an arbiter keeps but the text in its input; it is used up by that. */
    static String kept(HexArbiter arbiter) {
        StringBuilder text = new StringBuilder(seen(arbiter));
        text.append("\ninput ").append(arbiter.append(0L));
        for (int left = arbiter.undo(); left >= 0; left = arbiter.undo()) {
            text.append("\nundo ").append(left).append(": ").append(seen(arbiter));
        }
        for (int slot = 0; slot <= 1; slot++) {
            text.append("\nslot ").append(arbiter.restoreSnapshot(slot)).append(": ").append(seen(arbiter));
        }
        return text.toString();
    }

    /** All that an arbiter keeps, also the text and what the latest load answered; it is used up by that. */
    static String everything(HexArbiter arbiter) {
        String results = arbiter.loadError() + " " + arbiter.loadStatement() + "\n";
        return results + kept(arbiter) + "\nload " + arbiter.load() + ": " + seen(arbiter);
    }
}
