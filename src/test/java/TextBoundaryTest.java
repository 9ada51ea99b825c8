/**
 * The boundary cases of section 2 and of promises 1 to 5: a method for each sentence of the document,
 * which stands above it. In a text with an error the sign ^ stands where the error is.
 */
public final class TextBoundaryTest {
    private static final Check CHECK = new Check();

    public static void main(String[] args) {
        oneOrMoreStatements();
        separatedBySemicolons();
        theFirstOneIsBoard();
        sizeIs2To9();
        swapStandsOnlyThere();
        stonesOfASide();
        turnFromThereOn();
        movesOneBehindTheOther();
        aWordOfOneLetter();
        aNumberForTheRow();
        aWordIsAMaximalRun();
        aNumberIsAMaximalRun();
        spacesAreByte32();
        spacesBetweenTwoWords();
        theFirstErrorEndsIt();
        cannotStandAtItsPlace();
        aWordOfMoreLetters();
        theTextEndsTooEarly();
        outOfItsRange();
        aCellThatIsNotFree();
        aMoveThoughTheGameIsOver();
        severalErrorsAtOnePlace();
        aNewObject();
        appendLeavesOutZeros();
        appendUpTo400();
        loadReturns();
        loadBeginsAnew();
        loadWithAnErrorChangesNothing();
        theBufferIsEmptied();
        theOutputAndTheSnapshotsStay();
        loadErrorIsOfTheLatestCall();
        loadStatementIsOfTheLatestCall();
        whatASemicolonBelongsTo();
        CHECK.end("TextBoundaryTest");
    }

    private static HexArbiter good(String text, String board) {
        HexArbiter arbiter = new HexArbiter();
        CHECK.same(text, board.indexOf('/'), Check.load(arbiter, text));
        CHECK.same(text + ": board", board, Check.board(arbiter));
        CHECK.same(text + ": loadError", 0, arbiter.loadError());
        CHECK.same(text + ": loadStatement", -1, arbiter.loadStatement());
        return arbiter;
    }

    /** "A description is a list of one or more statements" */
    private static void oneOrMoreStatements() {
        CHECK.textError("^", 1, 0);
        CHECK.textError(" ^", 1, 0);
        good("board 2", "../..");
        good("board 2;red a1", "r./..");
        good("board 2;red a1;red b1", "rr/..");
        good("board 2" + ";turn red".repeat(43), "../..");
    }

    /** "separated by semicolons" */
    private static void separatedBySemicolons() {
        CHECK.textError("board 2 ^red a1", 1, 0);
        CHECK.textError("board 2; red a1 ^red b1", 1, 1);
        CHECK.textError("board 2^, red a1", 1, 0);
        CHECK.textError("board 2^: red a1", 1, 0);
        CHECK.textError("^;", 1, 0);
        CHECK.textError("board 2;^;", 1, 1);
        CHECK.textError("board 2; red a1;^", 1, 2);
    }

    /** "the first one is board SIZE [ swap ]" */
    private static void theFirstOneIsBoard() {
        CHECK.textError("^red a1; board 2", 1, 0);
        CHECK.textError("^turn red", 1, 0);
        CHECK.textError("^move a1", 1, 0);
        CHECK.textError("^swap", 1, 0);
        CHECK.textError("^2 board", 1, 0);
        CHECK.textError("board 2; ^board 2", 1, 1);
        CHECK.textError("board 2; red a1; ^board 2", 1, 2);
    }

    /** "2 to 9" */
    private static void sizeIs2To9() {
        for (int size = 2; size <= 9; size++) {
            CHECK.same("board " + size, size, Check.load(new HexArbiter(), "board " + size));
        }
        CHECK.same("board 09", 9, Check.load(new HexArbiter(), "board 09"));
        CHECK.same("zeros ahead", 2, Check.load(new HexArbiter(), "board " + "0".repeat(300) + "2"));
        CHECK.textError("board ^0", 2, 0);
        CHECK.textError("board ^1", 2, 0);
        CHECK.textError("board ^01", 2, 0);
        CHECK.textError("board ^10", 2, 0);
        CHECK.textError("board ^2147483647", 2, 0);
        CHECK.textError("board ^2147483648", 2, 0);
        // these would be 2 if they wrapped around
        CHECK.textError("board ^4294967298", 2, 0);
        CHECK.textError("board ^18446744073709551618", 2, 0);
        CHECK.textError("board ^2" + "0".repeat(300), 2, 0);
        CHECK.textError("board ^-2", 1, 0);
    }

    /** "with swap, swap() is allowed; it stands only there" */
    private static void swapStandsOnlyThere() {
        HexArbiter with = good("board 3 swap; move b1", ".r./.../...");
        CHECK.same("with swap", 1, with.size(7));
        CHECK.same("with swap", 3, with.swap());
        HexArbiter without = good("board 3; move b1", ".r./.../...");
        CHECK.same("without it", 0, without.size(7));
        CHECK.same("without it", -3, without.swap());
        CHECK.textError("board ^swap 3", 1, 0);
        CHECK.textError("^swap board 3", 1, 0);
        CHECK.textError("board 3 swap ^swap", 1, 0);
        CHECK.textError("board 3; ^swap", 1, 1);
        CHECK.textError("board 3; turn red ^swap", 1, 1);
        CHECK.textError("board 3; red a1 ^swap", 1, 1);
        CHECK.textError("board 3; move a1; ^swap", 1, 2);
    }

    /** "red CELL { CELL }, blue CELL { CELL } - stones of a side" */
    private static void stonesOfASide() {
        good("board 2; red b2", "../.r");
        good("board 2; blue b2", "../.b");
        good("board 2; red a1 b2; blue b1 a2", "rb/br");
        CHECK.textError("board 2; red ^", 1, 1);
        CHECK.textError("board 2; blue ^", 1, 1);
        CHECK.textError("board 2; blue ^; red a1", 1, 1);
        HexArbiter full = good("board 9; red " + allCells(),
            "rrrrrrrrr/rrrrrrrrr/rrrrrrrrr/rrrrrrrrr/rrrrrrrrr/rrrrrrrrr/rrrrrrrrr/rrrrrrrrr/rrrrrrrrr");
        CHECK.sizes("a full board", full, 9, 81, 0, 0, 0, 0, 0, 0, -1, 0);
        CHECK.textError("board 9; red " + allCells() + "^i9", 3, 1);
        CHECK.textError("board 9; blue " + allCells() + ";red ^a1", 3, 2);
        // stones may go on when a side has joined
        good("board 2; red a1 a2 b1; red b2", "rr/rr");
    }

    private static String allCells() {
        StringBuilder cells = new StringBuilder();
        for (int cell = 0; cell < 81; cell++) {
            cells.append((char) ('a' + cell % 9)).append(1 + cell / 9);
        }
        return cells.toString();
    }

    /** "turn SIDE - red or blue: whose turn it is from there on (red at first)" */
    private static void turnFromThereOn() {
        CHECK.same("red at first", 0, good("board 3", ".../.../...").size(5));
        HexArbiter before = Check.loaded("board 3; turn blue");
        Check.load(before, "board 3");
        CHECK.same("red at first, whoever it was before", 0, before.size(5));
        CHECK.same("at the end", 1, good("board 3; move a1; turn blue", "r../.../...").size(5));
        CHECK.same("the later one", 0, good("board 3; turn blue; turn red", ".../.../...").size(5));
        good("board 3; move a1; turn red; move b1", "rr./.../...");
        good("board 3; turn blue; move a1 b1", "br./.../...");
        CHECK.textError("board 3; turn ^none", 1, 1);
        CHECK.textError("board 3; turn ^r", 1, 1);
        CHECK.textError("board 3; turn ^0", 1, 1);
        CHECK.textError("board 3; turn red ^blue", 1, 1);
        CHECK.textError("board 3; turn red ^a1", 1, 1);
    }

    /** "move CELL { CELL } - moves, one behind the other, of the side whose turn it is then" */
    private static void movesOneBehindTheOther() {
        HexArbiter arbiter = good("board 3; move c3; red a1; move b2 a3", "r../.b./r.r");
        CHECK.same("three moves", 3, arbiter.size(4));
        CHECK.same("the first", 8, arbiter.moveAt(0));
        CHECK.same("the second", 4, arbiter.moveAt(1));
        CHECK.same("the third", 6, arbiter.moveAt(2));
        CHECK.same("the turn", 1, arbiter.size(5));
        CHECK.textError("board 3; move ^", 1, 1);
        CHECK.textError("board 3; move ^; move a1", 1, 1);
        // the last move may join
        CHECK.same("the last one joins", 0, good("board 2; move a1 b1 a2", "rb/r.").size(6));
    }

    /** "A CELL is a word of one letter, for the column (a is the column 0, and so on)" */
    private static void aWordOfOneLetter() {
        good("board 2; red a1", "r./..");
        good("board 2; red b1", ".r/..");
        CHECK.textError("board 2; red ^c1", 2, 1);
        CHECK.textError("board 2; red ^z1", 2, 1);
        CHECK.same("i on 9", 9, Check.load(new HexArbiter(), "board 9; red i1"));
        CHECK.textError("board 9; red ^j1", 2, 1);
        CHECK.textError("board 8; red ^i1", 2, 1);
        CHECK.textError("board 9; red ^1", 1, 1);
        CHECK.textError("board 9; red ^1a", 1, 1);
    }

    /** "and a number, for the row (1 is the row 0, and so on)" */
    private static void aNumberForTheRow() {
        good("board 2; red a1", "r./..");
        good("board 2; red a2", "../r.");
        good("board 2; red a0002", "../r.");
        CHECK.textError("board 2; red a^0", 2, 1);
        CHECK.textError("board 2; red a^00", 2, 1);
        CHECK.textError("board 2; red a^3", 2, 1);
        CHECK.same("9 on 9", 9, Check.load(new HexArbiter(), "board 9; red a9"));
        CHECK.textError("board 9; red a^10", 2, 1);
        // these would be 1 if they wrapped around
        CHECK.textError("board 9; red a^4294967297", 2, 1);
        CHECK.textError("board 9; red a^18446744073709551617", 2, 1);
        CHECK.textError("board 9; red a^1" + "0".repeat(200), 2, 1);
        CHECK.textError("board 9; red a^-1", 1, 1);
        CHECK.textError("board 9; red a ^a", 1, 1);
    }

    /** "A word is a maximal run of lower-case letters" */
    private static void aWordIsAMaximalRun() {
        CHECK.textError("^boardboard 2", 1, 0);
        CHECK.textError("^bo ard 2", 1, 0);
        eachLetterCounts("", "board", " 2");
        eachLetterCounts("board 2 ", "swap", "");
        eachLetterCounts("board 2;", "red", " a1");
        eachLetterCounts("board 2;", "blue", " a1");
        eachLetterCounts("board 2;", "move", " a1");
        eachLetterCounts("board 2;", "turn", " red");
        eachLetterCounts("board 2;turn ", "red", "");
        eachLetterCounts("board 2;turn ", "blue", "");
        CHECK.textError("board 2; ^redred a1", 1, 1);
        CHECK.textError("board 2; red ^ab1", 1, 1);
        // the bytes beside those of the letters
        CHECK.textError("board 2; red ^`1", 1, 1);
        CHECK.textError("board 2; red ^{1", 1, 1);
        CHECK.textError("board 2; red ^A1", 1, 1);
        CHECK.textError("^boarD 2", 1, 0);
        CHECK.textError("board 2; red a^`1", 1, 1);
        CHECK.textError("board 2; red a^{1", 1, 1);
    }

    private static void eachLetterCounts(String ahead, String word, String behind) {
        int statement = ahead.indexOf(';') < 0 ? 0 : 1;
        for (int index = 0; index < word.length(); index++) {
            String other = word.substring(0, index) + "z" + word.substring(index + 1);
            CHECK.textError(ahead + "^" + other + behind, 1, statement);
            CHECK.textError(ahead + "^" + word.substring(0, index) + word.substring(index + 1) + behind, 1, statement);
        }
        CHECK.textError(ahead + "^" + word + "s" + behind, 1, statement);
    }

    /** "a number a maximal run of digits" */
    private static void aNumberIsAMaximalRun() {
        CHECK.textError("board ^22", 2, 0);
        CHECK.textError("board 2 ^2", 1, 0);
        CHECK.textError("board 2; red a1 ^1", 1, 1);
        CHECK.textError("board 2; red a^11", 2, 1);
        // the bytes beside those of the digits
        CHECK.textError("board ^/", 1, 0);
        CHECK.textError("board ^:", 1, 0);
        CHECK.textError("board 2^/", 1, 0);
        CHECK.textError("board 2^:", 1, 0);
        CHECK.textError("board 2^.0", 1, 0);
    }

    /** "Spaces (byte 32) may stand before and after words, numbers and semicolons" */
    private static void spacesAreByte32() {
        HexArbiter arbiter = good("  board  3  swap  ;  red  c  1  ;  move  a  1  b  1  ;  turn  blue  ",
            "rbr/.../...");
        CHECK.same("the turn", 1, arbiter.size(5));
        for (char other : new char[] {1, 9, 10, 13, 31, 33, 127, 128, 160, 255}) {
            CHECK.textError("^" + other + "board 2", 1, 0);
            CHECK.textError("board^" + other + "2", 1, 0);
            CHECK.textError("board 2^" + other, 1, 0);
            CHECK.textError("board 2;^" + other + "red a1", 1, 1);
            CHECK.textError("board 2; red a^" + other + "1", 1, 1);
            CHECK.textError("board 2; red a1^" + other, 1, 1);
        }
    }

    /** "they are required only between two words" */
    private static void spacesBetweenTwoWords() {
        good("board3swap;red a1b1;blue c1;turn blue;move a2b2", "rrb/br./...");
        CHECK.textError("board3; ^reda1", 1, 1);
        CHECK.textError("board3; ^turnblue", 1, 1);
        CHECK.textError("board3; ^movea1", 1, 1);
        CHECK.textError("^boardswap3", 1, 0);
    }

    /** "The text is read from left to right; the first error ends it." */
    private static void theFirstErrorEndsIt() {
        CHECK.textError("board 2; red ^c1 a1 a1; ?", 2, 1);
        CHECK.textError("board 2; red a1 ^a1 c1; ?", 3, 1);
        CHECK.textError("board 2; red a1 a2; move ^b1; red c9", 4, 2);
        CHECK.textError("board 2; ^?; red c1", 1, 1);
        CHECK.textError("board ^1; red c1; red ?", 2, 0);
        CHECK.textError("board 2; red ^c3", 2, 1);
        CHECK.textError("board 2; red ^c", 2, 1);
        CHECK.textError("board 2; red ^c?", 2, 1);
    }

    /** "Error 1: a byte, word or number cannot stand at its place (position of its first byte" */
    private static void cannotStandAtItsPlace() {
        CHECK.textError("^?", 1, 0);
        CHECK.textError("^word", 1, 0);
        CHECK.textError("^1234", 1, 0);
        CHECK.textError("board ^?", 1, 0);
        CHECK.textError("board ^word", 1, 0);
        CHECK.textError("board ^;", 1, 0);
        CHECK.textError("board 2 ^?", 1, 0);
        CHECK.textError("board 2 ^word", 1, 0);
        CHECK.textError("board 2 ^1234", 1, 0);
        CHECK.textError("board 2 swap ^?", 1, 0);
        CHECK.textError("board 2 swap ^1234", 1, 0);
        CHECK.textError("board 2; ^word", 1, 1);
        CHECK.textError("board 2; ^a1", 1, 1);
        CHECK.textError("board 2; ^1234", 1, 1);
        CHECK.textError("board 2; red ^1234", 1, 1);
        CHECK.textError("board 2; red ^?", 1, 1);
        CHECK.textError("board 2; red a ^word", 1, 1);
        CHECK.textError("board 2; red a ^?", 1, 1);
        CHECK.textError("board 2; red a ^;", 1, 1);
        CHECK.textError("board 2; red a1 ^1234", 1, 1);
        CHECK.textError("board 2; red a1 ^?", 1, 1);
        CHECK.textError("board 2; turn ^word", 1, 1);
        CHECK.textError("board 2; turn ^1234", 1, 1);
        CHECK.textError("board 2; turn ^?", 1, 1);
        CHECK.textError("board 2; turn red ^word", 1, 1);
        CHECK.textError("board 2; turn red ^1234", 1, 1);
        CHECK.textError("board 2; turn red ^?", 1, 1);
        CHECK.textError("board 2" + " ".repeat(392) + "^?", 1, 0);
    }

    /** "a word of more letters where a CELL must be, too" */
    private static void aWordOfMoreLetters() {
        CHECK.textError("board 2; red ^aa1", 1, 1);
        CHECK.textError("board 2; red a1 ^bb1", 1, 1);
        CHECK.textError("board 2; red a1 ^blue b1", 1, 1);
        CHECK.textError("board 2; move ^move", 1, 1);
        CHECK.textError("board 2; move a1 ^ab", 1, 1);
    }

    /** "or the text ends too early (position: its length)" */
    private static void theTextEndsTooEarly() {
        String[] texts = {"", "board", "board 2;", "board 2 swap;", "board 2; red", "board 2; red a",
            "board 2; red a1;", "board 2; red a1 b", "board 2; turn", "board 2; turn red;", "board 2; move",
            "board 2; move a", "board 2; move a1 b"};
        for (String text : texts) {
            int statement = text.length() - text.replace(";", "").length();
            CHECK.textError(text + "^", 1, statement);
            CHECK.textError(text + "   ^", 1, statement);
            CHECK.textError(text + " ".repeat(400 - text.length()) + "^", 1, statement);
        }
    }

    /** "Error 2: a number is out of its range, or a letter tells no column (position of its first byte)." */
    private static void outOfItsRange() {
        CHECK.textError("board   ^123", 2, 0);
        CHECK.textError("board   ^000", 2, 0);
        CHECK.textError("board 5; red a  ^123", 2, 1);
        CHECK.textError("board 5; move a  ^006", 2, 1);
        CHECK.textError("board 5; move a1 b2; blue c  ^0", 2, 2);
        CHECK.textError("board 5; red   ^f1", 2, 1);
        CHECK.textError("board 5; move a1   ^f1", 2, 1);
        good("board 5; red e5", "...../...../...../...../....r");
    }

    /** "Error 3: a CELL that is not free (position of its letter, found behind its number)." */
    private static void aCellThatIsNotFree() {
        CHECK.textError("board 3; red a1  ^a  1", 3, 1);
        CHECK.textError("board 3; red a1; blue ^a1", 3, 2);
        CHECK.textError("board 3; move a1 b1 ^b1", 3, 1);
        CHECK.textError("board 3; move a1; red ^a1", 3, 2);
        CHECK.textError("board 3; blue a1; move ^a1", 3, 2);
        CHECK.textError("board 3; red a1 ^a1?", 3, 1);
        // its number is read first
        CHECK.textError("board 3; red a1 a^4", 2, 1);
        CHECK.textError("board 3; red a1 a^0", 2, 1);
        CHECK.textError("board 3; red a1 a^?", 1, 1);
        CHECK.textError("board 3; red a1 a^", 1, 1);
        good("board 3; red a1 a2 a3; blue b1", "rb./r../r..");
    }

    /** "Error 4: a move, though the game is over (position of its letter, found ahead of its number)." */
    private static void aMoveThoughTheGameIsOver() {
        CHECK.textError("board 2; red a1 a2; move   ^b  1", 4, 2);
        CHECK.textError("board 2; blue a1 b1; move ^b2", 4, 2);
        CHECK.textError("board 2; move a1 b1 a2 ^b2", 4, 1);
        CHECK.textError("board 2; move a1 b1 a2; move ^b2", 4, 2);
        // its number is not read
        CHECK.textError("board 2; red a1 a2; move ^b3", 4, 2);
        CHECK.textError("board 2; red a1 a2; move ^b0", 4, 2);
        CHECK.textError("board 2; red a1 a2; move ^b?", 4, 2);
        CHECK.textError("board 2; red a1 a2; move ^b", 4, 2);
        CHECK.textError("board 2; red a1 a2; move ^a1", 4, 2);
        // a move there is none without its letter
        CHECK.textError("board 2; red a1 a2; move ^", 1, 2);
        CHECK.textError("board 2; red a1 a2; move ^;", 1, 2);
        CHECK.textError("board 2; red a1 a2; move ^1", 1, 2);
        // what is no move goes on
        good("board 2; red a1 a2; blue b1; turn blue; red b2", "rb/rr");
    }

    /** "Of several errors at one place the one with the smaller number counts." */
    private static void severalErrorsAtOnePlace() {
        CHECK.textError("board 2; red ^zz1", 1, 1);
        CHECK.textError("board 2; red a1 a2; move ^bb1", 1, 2);
        CHECK.textError("board 2; red a1 a2; move ^c1", 2, 2);
        CHECK.textError("board 2; red a1 a2; move ^z", 2, 2);
    }

    /** "A new object is as by the text "board 2"", promise 1: "an empty input buffer, an empty output, no snapshots" */
    private static void aNewObject() {
        String due = Check.everything(Check.loaded("board 2"));
        CHECK.same("a new object", due, Check.everything(new HexArbiter()));
        HexArbiter arbiter = new HexArbiter();
        CHECK.sizes("a new object", arbiter, 2, 0, 0, 4, 0, 0, -1, 0, -1, 0);
        CHECK.same("the input buffer", 0, arbiter.append(0L));
        CHECK.same("the output", -1, arbiter.outputByte(0));
        CHECK.same("the snapshot 0", -1, arbiter.restoreSnapshot(0));
        CHECK.same("the snapshot 1", -1, arbiter.restoreSnapshot(1));
        arbiter.move(0);
        CHECK.same("no swap", -3, arbiter.swap());
    }

    /** Promise 2: "the most significant byte first, where bytes that are 0 are left out" */
    private static void appendLeavesOutZeros() {
        HexArbiter arbiter = new HexArbiter();
        CHECK.same("all are 0", 0, arbiter.append(0L));
        CHECK.same("the highest alone", 1, arbiter.append(0x6200_0000_0000_0000L));
        CHECK.same("the lowest alone", 2, arbiter.append(0x6fL));
        CHECK.same("zeros between", 5, arbiter.append(0x0061_0000_7200_6400L));
        CHECK.same("none is 0", 13, arbiter.append(0x2020_2020_2020_2033L));
        CHECK.same("in their order", 3, arbiter.load());
        CHECK.same("a negative number", 8, arbiter.append(-1L));
        CHECK.same("the least number", 9, arbiter.append(Long.MIN_VALUE));
        CHECK.same("the largest number", 17, arbiter.append(Long.MAX_VALUE));
        CHECK.same("each byte above 127 is one", -100, arbiter.load());
    }

    /** Promise 2: "FULL if it would exceed 400" */
    private static void appendUpTo400() {
        HexArbiter arbiter = new HexArbiter();
        for (int length = 8; length <= 392; length += 8) {
            CHECK.same("append", length, arbiter.append(0x2020_2020_2020_2020L));
        }
        CHECK.same("just 400", 400, arbiter.append(0x626f_6172_6420_3220L));
        CHECK.same("one more", -2, arbiter.append(32L));
        CHECK.same("eight more", -2, arbiter.append(-1L));
        CHECK.same("none more", 400, arbiter.append(0L));
        CHECK.same("what was refused is not there", 2, arbiter.load());
        HexArbiter nearly = new HexArbiter();
        Check.append(nearly, "board 3" + " ".repeat(386));
        CHECK.same("393 and 8", -2, nearly.append(0x3131_3131_3131_3131L));
        CHECK.same("nothing of it was appended", 393, nearly.append(0L));
        CHECK.same("393 and 7", 400, nearly.append(0x20_2020_2020_2020L));
        CHECK.same("a text of 400 bytes", 3, nearly.load());
        CHECK.same("and from the start again", 8, nearly.append(-1L));
    }

    /** Promise 3: "Returns SIZE; -100 minus the position of the error if the text has one" */
    private static void loadReturns() {
        CHECK.same("the least size", 2, Check.load(new HexArbiter(), "board 2"));
        CHECK.same("the largest size", 9, Check.load(new HexArbiter(), "board 9"));
        CHECK.same("at the start", -100, Check.load(new HexArbiter(), "x"));
        CHECK.same("behind it", -101, Check.load(new HexArbiter(), " x"));
        CHECK.same("at the last byte", -499, Check.load(new HexArbiter(), " ".repeat(399) + "x"));
        CHECK.same("at the length", -500, Check.load(new HexArbiter(), " ".repeat(400)));
    }

    /** An object with all that it can keep: moves, actions, snapshots and an output. */
    private static HexArbiter busy() {
        HexArbiter arbiter = Check.loaded("board 3 swap; blue c3; move b1 a3");
        arbiter.saveSnapshot(0);
        arbiter.move(4);
        arbiter.put(0, 1);
        arbiter.saveSnapshot(1);
        arbiter.giveUp();
        arbiter.writeRow(2);
        return arbiter;
    }

    /** Promise 3: "and begins anew; the moves are those of the text; nothing can be taken back" */
    private static void loadBeginsAnew() {
        for (String text : new String[] {"board 2", "board 4 swap; move d1", "board 3; turn blue; move a1 c1"}) {
            HexArbiter fresh = Check.loaded(text);
            fresh.writeCell(0);
            HexArbiter used = busy();
            used.writeCell(0);
            CHECK.same(text, fresh.size(0), Check.load(used, text));
            CHECK.same(text + ": begun anew", Check.seen(fresh), Check.seen(used));
            CHECK.same(text + ": nothing to undo", -1, used.undo());
        }
    }

    /** Promise 3: "and then nothing but the buffer and the results of loadError() and loadStatement() changes" */
    private static void loadWithAnErrorChangesNothing() {
        String[] texts = {"", "x", "board", "board 1", "board 9", "board 9; red a1 a1", "board 2; red a1 a2; move b1",
            "board 2; blue a1 b1; turn blue; x", "board 9 swap; move i9;"};
        for (String text : texts) {
            HexArbiter arbiter = busy();
            int answer = Check.load(arbiter, text);
            if (text.equals("board 9")) {
                CHECK.same("this one has no error", 9, answer);
            } else {
                CHECK.isTrue(text + ": an error", answer <= -100);
                CHECK.same(text + ": the cells stay", 4, arbiter.neighbour(1, 3));
                CHECK.outside(text + ": the board stays", () -> arbiter.cell(9));
                CHECK.same(text + ": nothing changes", Check.kept(busy()), Check.kept(arbiter));
            }
        }
    }

    /** Promise 3: "The buffer is emptied, also on an error." */
    private static void theBufferIsEmptied() {
        HexArbiter arbiter = new HexArbiter();
        Check.load(arbiter, "board 3");
        CHECK.same("without an error", 0, arbiter.append(0L));
        CHECK.same("an empty text", -100, arbiter.load());
        Check.load(arbiter, "board 3 x");
        CHECK.same("on an error", 0, arbiter.append(0L));
        CHECK.same("an empty text", -100, arbiter.load());
        CHECK.same("the board stays", 3, arbiter.size(0));
    }

    /** Promise 3: "The output and the snapshots stay." */
    private static void theOutputAndTheSnapshotsStay() {
        HexArbiter arbiter = busy();
        CHECK.same("load", 9, Check.load(arbiter, "board 9"));
        CHECK.same("the output", "b.b", Check.output(arbiter));
        CHECK.same("the snapshot 0", 6, arbiter.restoreSnapshot(0));
        CHECK.same("the snapshot 0", ".r./.../b.b", Check.board(arbiter));
        Check.load(arbiter, "board 2");
        CHECK.same("the snapshot 1", 4, arbiter.restoreSnapshot(1));
        CHECK.same("the snapshot 1", "br./.r./b.b", Check.board(arbiter));
    }

    /** Promise 4: "Returns 1 to 4 (section 2); 0 if the text had no error or there was no such call." */
    private static void loadErrorIsOfTheLatestCall() {
        HexArbiter arbiter = new HexArbiter();
        CHECK.same("no such call", 0, arbiter.loadError());
        String[] texts = {"board 2; x", "board 1", "board 2; red a1 a1", "board 2; red a1 a2; move b1", "board 2", "",
            "board 9"};
        int[] due = {1, 2, 3, 4, 0, 1, 0};
        int latest = 0;
        for (int index = 0; index < texts.length; index++) {
            Check.append(arbiter, texts[index]);
            CHECK.same(texts[index] + ": not loaded yet", latest, arbiter.loadError());
            arbiter.load();
            latest = due[index];
            CHECK.same(texts[index] + ": loaded", latest, arbiter.loadError());
        }
    }

    /** Promise 5: "the index of the statement, from 0; NONE if the text had no error or there was no such call" */
    private static void loadStatementIsOfTheLatestCall() {
        HexArbiter arbiter = new HexArbiter();
        CHECK.same("no such call", -1, arbiter.loadStatement());
        Check.load(arbiter, "x");
        CHECK.same("the first one", 0, arbiter.loadStatement());
        Check.load(arbiter, "board 2; turn red; turn red; x");
        CHECK.same("the fourth one", 3, arbiter.loadStatement());
        Check.load(arbiter, "board 2; turn red");
        CHECK.same("no error", -1, arbiter.loadStatement());
        Check.load(arbiter, "");
        CHECK.same("the first one again", 0, arbiter.loadStatement());
        CHECK.textError("board 2" + ";turn red".repeat(43) + ";^", 1, 44);
    }

    /** Promise 5: "A byte behind a statement that is no semicolon belongs to that statement; what follows ..." */
    private static void whatASemicolonBelongsTo() {
        CHECK.textError("board 2 ^?", 1, 0);
        CHECK.textError("board 2 ^9;", 1, 0);
        CHECK.textError("board 2; red a1 ^?", 1, 1);
        CHECK.textError("board 2; turn red ^red; turn red", 1, 1);
        CHECK.textError("board 2;^?", 1, 1);
        CHECK.textError("board 2;^", 1, 1);
        CHECK.textError("board 2;   ^", 1, 1);
        CHECK.textError("board 2; red a1;^", 1, 2);
        CHECK.textError("board 2; red a1;^;", 1, 2);
        CHECK.textError("^;;", 1, 0);
    }
}
