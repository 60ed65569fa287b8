import java.util.function.LongSupplier;

/** For each promise of the document: ordinary calls, the edges that it names, and wrong arguments. */
public final class PromiseTest {
    private static final int NONE = NightDiary.NONE;
    private static final String INDEX = "IndexOutOfBoundsException";
    private static final String ARGUMENT = "IllegalArgumentException";
    private static final String STATE = "IllegalStateException";

    private static String promise = "";
    private static int passed = 0;
    private static int failed = 0;

    private PromiseTest() {
    }

    private static void due(String what, long got, long want) {
        if (got == want) {
            passed++;
        } else {
            failed++;
            System.out.println(promise + ": " + what + " answered " + got + ", due is " + want);
        }
    }

    private static void dueThrow(String what, LongSupplier call, String exception) {
        String got;
        try {
            got = "the answer " + call.getAsLong();
        } catch (RuntimeException e) {
            got = e.getClass().getSimpleName();
        }
        if (got.equals(exception)) {
            passed++;
        } else {
            failed++;
            System.out.println(promise + ": " + what + " gave " + got + ", due is " + exception);
        }
    }

    private static void write(NightDiary diary, String text) {
        for (int index = 0; index < text.length(); index++) {
            diary.append(text.charAt(index));
        }
    }

    private static int paste(NightDiary diary, int piece, String text) {
        write(diary, text);
        return diary.paste(piece);
    }

    /** A diary with a piece for each text, with these receipts; no two of the pieces fit. */
    private static NightDiary diaryOf(String... texts) {
        NightDiary diary = new NightDiary();
        for (int piece = 0; piece < texts.length; piece++) {
            diary.piece(0, 0);
            if (!texts[piece].isEmpty()) {
                paste(diary, piece, texts[piece]);
            }
        }
        return diary;
    }

    /** A diary with pieces of these seams, above and below by turns. */
    private static NightDiary diaryOfSeams(int... seams) {
        NightDiary diary = new NightDiary();
        for (int index = 0; index + 1 < seams.length; index += 2) {
            diary.piece(seams[index], seams[index + 1]);
        }
        return diary;
    }

    public static void main(String[] args) {
        newObject();
        piece();
        paste();
        pasteInRolls();
        cut();
        correct();
        join();
        joinAndTimes();
        part();
        joinClear();
        append();
        clearBuffer();
        firstError();
        undo();
        undoOfEach();
        pieceOf();
        receipt();
        checking();
        page();
        line();
        sum();
        count();
        fits();
        longest();
        hidden();
        suspect();
        rightShare();
        digest();
        extremes();
        System.out.println(passed + " passed, " + failed + " failed");
        if (failed != 0) {
            System.exit(1);
        }
    }

    private static void newObject() {
        promise = "promise 1, a new object";
        NightDiary diary = new NightDiary();
        due("NONE", NightDiary.NONE, -1);
        for (int what = 0; what <= 12; what++) {
            due("count(" + what + ")", diary.count(what), 0);
        }
        due("the buffer's length", diary.clearBuffer(), 0);
        NightDiary other = new NightDiary();
        other.piece(1, 2);
        other.append('0');
        due("count(0) beside another diary", diary.count(0), 0);
        due("clearBuffer() beside another diary", diary.clearBuffer(), 0);
    }

    private static void piece() {
        promise = "promise 2, piece";
        NightDiary diary = new NightDiary();
        due("piece(0, 99)", diary.piece(0, 99), 0);
        due("piece(99, 0)", diary.piece(99, 0), 1);
        due("its seam above", diary.pieceOf(1, 0), 99);
        due("its seam below", diary.pieceOf(1, 1), 0);
        due("its receipts", diary.pieceOf(1, 2), 0);
        due("above it", diary.pieceOf(1, 3), NONE);
        due("below it", diary.pieceOf(1, 4), NONE);
        dueThrow("piece(-1, 0)", () -> diary.piece(-1, 0), ARGUMENT);
        dueThrow("piece(100, 0)", () -> diary.piece(100, 0), ARGUMENT);
        dueThrow("piece(0, -1)", () -> diary.piece(0, -1), ARGUMENT);
        dueThrow("piece(0, 100)", () -> diary.piece(0, 100), ARGUMENT);
        due("pieces", diary.count(0), 2);
        due("saved states", diary.count(12), 2);
        for (int number = 2; number < 10; number++) {
            due("piece(5, 5)", diary.piece(5, 5), number);
        }
        dueThrow("an 11th piece", () -> diary.piece(5, 5), STATE);
        dueThrow("an 11th piece with a wrong seam", () -> diary.piece(5, 100), ARGUMENT);
        due("pieces", diary.count(0), 10);
        diary.undo();
        due("pieces after undo", diary.count(0), 9);
    }

    private static void paste() {
        promise = "promise 3, paste";
        NightDiary diary = diaryOf("");
        dueThrow("paste with an empty buffer", () -> diary.paste(0), ARGUMENT);
        dueThrow("paste of no piece", () -> diary.paste(1), INDEX);
        dueThrow("paste of piece -1", () -> diary.paste(-1), INDEX);
        write(diary, "5@1:2+3=5;");
        dueThrow("paste of an unfinished text", () -> diary.paste(0), ARGUMENT);
        dueThrow("paste of an unfinished text on no piece", () -> diary.paste(1), INDEX);
        due("the buffer is kept", diary.clearBuffer(), 10);
        due("nothing is saved", diary.count(12), 1);
        due("two receipts", paste(diary, 0, "5@1:2+3=5;9@2:999+1+20+300=9999"), 2);
        due("the buffer is cleared", diary.clearBuffer(), 0);
        due("saved states", diary.count(12), 2);
        due("time", diary.receipt(0, 1, 0), 9);
        due("shop", diary.receipt(0, 1, 1), 2);
        due("items", diary.receipt(0, 1, 2), 4);
        due("sum", diary.receipt(0, 1, 3), 1320);
        due("printed", diary.receipt(0, 1, 4), 9999);
        due("sum of the first", diary.receipt(0, 0, 3), 5);
        due("one that goes back", paste(diary, 0, "8@0:1=1;10@0:1=1"), 0);
        due("saved states, none added", diary.count(12), 3);
        due("the buffer is cleared, none added", diary.clearBuffer(), 0);
        due("up to the one that goes back", paste(diary, 0, "9@0:1=1;8@0:1=1;10@0:1=1"), 1);
        due("up to the sixth", paste(diary, 0, "10@0:1=1;10@0:1=1;11@0:1=1;11@0:1=1"), 3);
        due("receipts", diary.pieceOf(0, 2), 6);
        due("a seventh", paste(diary, 0, "12@0:1=1"), 0);
        due("undo of that", diary.undo(), 5);
        diary.undo();
        due("receipts after undo of three as one call", diary.pieceOf(0, 2), 3);
        due("seven that are few", paste(diaryOf(""), 0, "0@0:1=1;0@0:1=1;0@0:1=1;0@0:1=1;0@0:1=1;0@0:1=1;0@0:1=1"), 6);
        due("times to 9999", paste(diaryOf(""), 0, "9999@9:1=1;9999@9:1=1"), 2);
        due("a buffer that is full", paste(diaryOf(""), 0,
                "1000@0:999+999+999+999=3996;1000@0:999+999+999=2997;1@0:1=11"), 2);
    }

    private static void pasteInRolls() {
        promise = "promise 3, paste in rolls";
        NightDiary diary = diaryOfSeams(0, 50, 49, 50, 49, 50, 49, 50);
        paste(diary, 0, "100@0:1=1");
        paste(diary, 3, "200@0:1=1");
        diary.join(0, 1);
        diary.join(1, 2);
        diary.join(2, 3);
        due("below a receipt two pieces above", paste(diary, 2, "99@0:1=1"), 0);
        due("above a receipt below", paste(diary, 1, "201@0:1=1"), 0);
        due("the time of the one below, past a piece without", paste(diary, 1, "200@0:1=1"), 1);
        due("the time of the one above", paste(diary, 0, "199@0:1=1;200@0:1=1;201@0:1=1"), 2);
        due("between equal times", paste(diary, 2, "200@0:1=1;201@0:1=1"), 1);
        due("at the end of a roll", paste(diary, 3, "9999@0:1=1"), 1);
        diary.part(1);
        due("after part, going back on the roll below", paste(diary, 2, "199@0:1=1"), 0);
        diary.cut(2);
        due("after part and cut", paste(diary, 2, "0@0:1=1"), 1);
        NightDiary full = diaryOf("1@0:1=1;1@0:1=1;1@0:1=1;1@0:1=1;1@0:1=1", "5@6:7+8=9");
        paste(full, 0, "1@0:1+2+3+4=1");
        due("a sixth receipt leaves the next piece alone", full.receipt(1, 0, 3), 15);
        NightDiary back = diaryOf("100@0:1=1", "");
        due("another roll does not matter", paste(back, 1, "5@0:1=1"), 1);
    }

    private static void cut() {
        promise = "promise 4, cut";
        NightDiary diary = diaryOf("1@0:10+20=7;2@0:5=9", "");
        due("the last one", diary.cut(0), 5);
        due("receipts", diary.pieceOf(0, 2), 1);
        due("the first one", diary.cut(0), 30);
        due("saved states", diary.count(12), 5);
        dueThrow("cut without receipts", () -> diary.cut(0), STATE);
        dueThrow("cut(1)", () -> diary.cut(1), STATE);
        dueThrow("cut(2)", () -> diary.cut(2), INDEX);
        dueThrow("cut(-1)", () -> diary.cut(-1), INDEX);
        due("saved states after throws", diary.count(12), 5);
        diary.undo();
        due("receipts after undo", diary.pieceOf(0, 2), 1);
        due("its sum after undo", diary.receipt(0, 0, 3), 30);
        due("printed after undo", diary.receipt(0, 0, 4), 7);
    }

    private static void correct() {
        promise = "promise 5, correct";
        NightDiary diary = diaryOf("1@0:10+20=7;2@0:5=9", "3@1:4=4");
        due("correct(0, 1)", diary.correct(0, 1), 9);
        due("it is the sum", diary.receipt(0, 1, 4), 5);
        due("it is right", diary.receipt(0, 1, 5), 0);
        due("the other one is as it was", diary.receipt(0, 0, 4), 7);
        due("correct(0, 0)", diary.correct(0, 0), 7);
        due("it is the sum", diary.receipt(0, 0, 4), 30);
        due("correct of a right one", diary.correct(1, 0), 4);
        due("saved states", diary.count(12), 6);
        dueThrow("correct(0, 2)", () -> diary.correct(0, 2), INDEX);
        dueThrow("correct(0, -1)", () -> diary.correct(0, -1), INDEX);
        dueThrow("correct(1, 1)", () -> diary.correct(1, 1), INDEX);
        dueThrow("correct(2, 0)", () -> diary.correct(2, 0), INDEX);
        dueThrow("correct(10, 0)", () -> diary.correct(10, 0), INDEX);
        dueThrow("correct(-1, 0)", () -> diary.correct(-1, 0), INDEX);
        diary.undo();
        diary.undo();
        due("printed after undo", diary.receipt(0, 0, 4), 7);
        due("the one before after undo", diary.receipt(0, 1, 4), 5);
    }

    private static void join() {
        promise = "promise 6, join";
        NightDiary diary = diaryOfSeams(49, 50, 49, 50, 49, 50, 1, 2);
        due("join(1, 0)", diary.join(1, 0), 2);
        due("below 1", diary.pieceOf(1, 4), 0);
        due("above 0", diary.pieceOf(0, 3), 1);
        due("rolls", diary.count(1), 3);
        dueThrow("join(1, 2), joined below", () -> diary.join(1, 2), STATE);
        dueThrow("join(2, 0), joined above", () -> diary.join(2, 0), STATE);
        dueThrow("join(0, 1), one roll", () -> diary.join(0, 1), STATE);
        dueThrow("join(2, 2), the same", () -> diary.join(2, 2), STATE);
        dueThrow("join(2, 3), seams", () -> diary.join(2, 3), STATE);
        dueThrow("join(0, 4)", () -> diary.join(0, 4), INDEX);
        dueThrow("join(4, 0)", () -> diary.join(4, 0), INDEX);
        dueThrow("join(-1, 0)", () -> diary.join(-1, 0), INDEX);
        dueThrow("join(0, -1)", () -> diary.join(0, -1), INDEX);
        due("saved states", diary.count(12), 5);
        due("join(0, 2), three pieces", diary.join(0, 2), 3);
        due("first of the roll", diary.pieceOf(2, 5), 1);
        diary.undo();
        due("below 0 after undo", diary.pieceOf(0, 4), NONE);
        due("above 2 after undo", diary.pieceOf(2, 3), NONE);
        due("join(2, 1), above two", diary.join(2, 1), 3);
        due("first of the roll", diary.pieceOf(0, 5), 2);
    }

    private static void joinAndTimes() {
        promise = "promise 6, join and times";
        NightDiary diary = diaryOfSeams(49, 50, 49, 50, 49, 50, 49, 50);
        paste(diary, 0, "50@0:1=1;100@0:1=1");
        paste(diary, 3, "99@0:1=1;300@0:1=1");
        dueThrow("join(0, 3), 100 above 99", () -> diary.join(0, 3), STATE);
        due("join(0, 1), without receipts", diary.join(0, 1), 2);
        due("join(2, 3), without receipts", diary.join(2, 3), 2);
        due("fits(1, 2), times past pieces without receipts", diary.fits(1, 2), 5);
        dueThrow("join(1, 2)", () -> diary.join(1, 2), STATE);
        diary.cut(0);
        due("join(1, 2), 50 above 99", diary.join(1, 2), 4);
        NightDiary equal = diaryOfSeams(49, 50, 49, 50);
        paste(equal, 0, "7@0:1=1");
        paste(equal, 1, "7@0:1=1");
        due("equal times", equal.join(0, 1), 2);
        NightDiary edges = diaryOfSeams(49, 50, 49, 50);
        paste(edges, 0, "9999@0:1=1");
        due("nothing below 9999", edges.fits(0, 1), 0);
        due("nothing above 9999", edges.fits(1, 0), 0);
    }

    private static void part() {
        promise = "promise 7, part";
        NightDiary diary = diaryOfSeams(49, 50, 49, 50, 49, 50);
        diary.join(2, 0);
        diary.join(0, 1);
        dueThrow("part of the last piece", () -> diary.part(1), STATE);
        dueThrow("part(3)", () -> diary.part(3), INDEX);
        dueThrow("part(-1)", () -> diary.part(-1), INDEX);
        due("saved states", diary.count(12), 5);
        due("part(2)", diary.part(2), 0);
        due("below 2", diary.pieceOf(2, 4), NONE);
        due("above 0", diary.pieceOf(0, 3), NONE);
        due("below 0 as before", diary.pieceOf(0, 4), 1);
        due("first of the roll", diary.pieceOf(1, 5), 0);
        dueThrow("part(2) again", () -> diary.part(2), STATE);
        due("saved states", diary.count(12), 6);
        diary.undo();
        due("below 2 after undo", diary.pieceOf(2, 4), 0);
    }

    private static void joinClear() {
        promise = "promise 8, joinClear";
        due("without pieces", new NightDiary().joinClear(), 0);
        NightDiary chain = diaryOfSeams(10, 20, 79, 30, 69, 40);
        due("a chain", chain.joinClear(), 2);
        due("below 0", chain.pieceOf(0, 4), 1);
        due("below 1", chain.pieceOf(1, 4), 2);
        due("saved states", chain.count(12), 4);
        chain.undo();
        due("joins after undo, as one call", chain.count(9), 0);
        due("again", chain.joinClear(), 2);
        due("nothing is left", chain.joinClear(), 0);
        due("saved states, nothing joined", chain.count(12), 5);
        due("joins", chain.count(9), 2);
        NightDiary twoLowers = diaryOfSeams(1, 50, 49, 2, 49, 3);
        due("two below one", twoLowers.joinClear(), 0);
        NightDiary twoUppers = diaryOfSeams(1, 50, 2, 50, 49, 3);
        due("one below two", twoUppers.joinClear(), 0);
        // Two pieces that fit both ways are clear twice; the lowest one becomes the upper one.
        NightDiary ring = diaryOfSeams(49, 50, 49, 50);
        due("both ways", ring.joinClear(), 1);
        due("below 0", ring.pieceOf(0, 4), 1);
        // 1 over 3 is clear first; their roll begins too early for 0, to which 2 alone is left then.
        NightDiary clearing = diaryOfSeams(1, 50, 49, 60, 49, 2, 39, 3);
        paste(clearing, 0, "100@0:1=1");
        paste(clearing, 3, "50@0:1=1");
        due("a join makes another one clear", clearing.joinClear(), 2);
        due("1 over 3", clearing.pieceOf(1, 4), 3);
        due("0 over 2", clearing.pieceOf(0, 4), 2);
        NightDiary times = diaryOfSeams(1, 50, 49, 2, 49, 3);
        paste(times, 0, "100@0:1=1");
        paste(times, 1, "99@0:1=1");
        due("times make it clear", times.joinClear(), 1);
        due("0 over 2", times.pieceOf(0, 4), 2);
    }

    private static void append() {
        promise = "promise 9, append";
        NightDiary diary = new NightDiary();
        due("append(33)", diary.append(33), 1);
        due("append(126)", diary.append(126), 2);
        dueThrow("append(32)", () -> diary.append(32), ARGUMENT);
        dueThrow("append(127)", () -> diary.append(127), ARGUMENT);
        dueThrow("append(-1)", () -> diary.append(-1), ARGUMENT);
        for (int length = 3; length <= 60; length++) {
            due("append('0')", diary.append('0'), length);
        }
        dueThrow("a 61st character", () -> diary.append('0'), STATE);
        dueThrow("a 61st character that is none", () -> diary.append(32), ARGUMENT);
        due("the length", diary.clearBuffer(), 60);
        due("saved states", diary.count(12), 0);
    }

    private static void clearBuffer() {
        promise = "promise 10, clearBuffer";
        NightDiary diary = new NightDiary();
        due("empty", diary.clearBuffer(), 0);
        write(diary, "!~0");
        due("three", diary.clearBuffer(), 3);
        due("empty again", diary.clearBuffer(), 0);
        due("the next length", diary.append('0'), 1);
        due("its first error", diary.firstError(), 1);
        due("saved states", diary.count(12), 0);
    }

    private static void dueError(String text, int index) {
        NightDiary diary = new NightDiary();
        write(diary, text);
        due("firstError of " + text, diary.firstError(), index);
        due("firstError of " + text + " again", diary.firstError(), index);
        due("length after firstError", diary.clearBuffer(), text.length());
    }

    private static void dueWhole(String text, boolean whole) {
        NightDiary diary = diaryOf("");
        write(diary, text);
        dueError(text, text.length());
        if (whole) {
            due("paste of " + text, diary.paste(0) > 0 ? 1 : 0, 1);
        } else {
            dueThrow("paste of " + text, () -> diary.paste(0), ARGUMENT);
        }
    }

    private static void firstError() {
        promise = "promise 11, firstError";
        String[] errors = {"@", ";", "x", "00", "01", "12345", "1:", "0@@", "0@12", "0@1@", "0@:", "0@1=", "0@1:0",
            "0@1:+", "0@1:=", "0@1:1234", "0@1:1;", "0@1:1@", "0@1:1++", "0@1:1+0", "0@1:1+=", "0@1:1+2+3+4+",
            "0@1:1==", "0@1:1=00", "0@1:1=01", "0@1:1=12345", "0@1:1=;", "0@1:1=+", "0@1:1=1@", "0@1:1=1+",
            "0@1:1=1=", "0@1:1=1;;", "0@1:1=1;@", "0@1:1=1;00", "0@1:1=1;0@1:0", "0@/", "0@1:1/", "/", "0@1:1=1:",
            "0@1:1+2+3+4=5;6@7:1+2+3+4+", "0@1:1=0;0@1:1=0;0@1:1=0;0@1:1=0;0@1:1=0;0@1:1=0;0@1;"};
        for (String text : errors) {
            dueError(text, text.length() - 1);
            dueError(text + "@1", text.length() - 1);
        }
        String[] wholes = {"0@0:1=0", "9999@9:999+999+999+999=9999", "0@0:1=0;0@0:1=0", "12@3:4+50=6",
            "0@0:10+100=10", "9@0:1=0;10@0:1=10;100@0:1=1000"};
        for (String text : wholes) {
            dueWhole(text, true);
        }
        String[] begun = {"", "0", "9", "9999", "0@", "0@5", "0@5:", "0@5:1", "0@5:999", "0@5:1+", "0@5:1+2", "0@5:1=",
            "0@5:1=1;", "0@5:1=1;2", "0@5:1=1;2@3:4+5+6+7="};
        for (String text : begun) {
            dueWhole(text, false);
        }
        // A text of any length would be one: its end need not fit into the buffer.
        dueError("0@0:1+1=0;0@0:1+1=0;0@0:1+1=0;0@0:1+1=0;0@0:1+1=0;1000@0:10+", 60);
    }

    private static void undo() {
        promise = "promise 12, undo";
        NightDiary empty = new NightDiary();
        dueThrow("undo of nothing", empty::undo, STATE);
        NightDiary diary = new NightDiary();
        for (int piece = 0; piece < 8; piece++) {
            diary.piece(piece, piece);
        }
        due("saved states", diary.count(12), 6);
        diary.append('7');
        for (int left = 5; left >= 0; left--) {
            due("undo", diary.undo(), left);
            due("saved states", diary.count(12), left);
            due("pieces", diary.count(0), left + 2);
        }
        dueThrow("a 7th undo", diary::undo, STATE);
        due("the buffer is kept", diary.clearBuffer(), 1);
        due("a piece after undo", diary.piece(40, 41), 2);
        due("its seam", diary.pieceOf(2, 0), 40);
        due("undo of that", diary.undo(), 0);
        due("pieces", diary.count(0), 2);
        due("the seam of an old piece", diary.pieceOf(1, 0), 1);
    }

    private static void undoOfEach() {
        promise = "promise 12, undo of each call";
        NightDiary diary = diaryOfSeams(49, 50, 49, 50);
        long two = digestOf(diary);
        paste(diary, 0, "7@1:2+3=9;8@2:3=3");
        long pasted = digestOf(diary);
        diary.correct(0, 0);
        long corrected = digestOf(diary);
        diary.joinClear();
        long joined = digestOf(diary);
        diary.cut(0);
        due("saved states", diary.count(12), 6);
        diary.undo();
        due("undo of cut", digestOf(diary), joined);
        diary.undo();
        due("undo of joinClear", digestOf(diary), corrected);
        diary.undo();
        due("undo of correct", digestOf(diary), pasted);
        diary.undo();
        due("undo of paste", digestOf(diary), two);
        due("undo of piece", diary.undo(), 1);
        due("pieces", diary.count(0), 1);
    }

    private static long digestOf(NightDiary diary) {
        return diary.digest();
    }

    private static void pieceOf() {
        promise = "promise 13, pieceOf";
        NightDiary diary = diaryOfSeams(49, 50, 49, 50, 49, 50, 3, 50);
        paste(diary, 2, "5@0:7+8=1;6@1:100=100");
        diary.join(1, 2);
        int[] wants = {49, 50, 2, 1, NONE, 1, 1, 115};
        for (int what = 0; what < wants.length; what++) {
            due("pieceOf(2, " + what + ")", diary.pieceOf(2, what), wants[what]);
        }
        due("pieceOf(1, 4)", diary.pieceOf(1, 4), 2);
        due("pieceOf(1, 6), joined below", diary.pieceOf(1, 6), 0);
        due("pieceOf(0, 6)", diary.pieceOf(0, 6), 2);
        due("pieceOf(3, 6)", diary.pieceOf(3, 6), 3);
        due("pieceOf(0, 7)", diary.pieceOf(0, 7), 0);
        dueThrow("pieceOf(0, 8)", () -> diary.pieceOf(0, 8), ARGUMENT);
        dueThrow("pieceOf(0, -1)", () -> diary.pieceOf(0, -1), ARGUMENT);
        dueThrow("pieceOf(4, 0)", () -> diary.pieceOf(4, 0), INDEX);
        dueThrow("pieceOf(-1, 8)", () -> diary.pieceOf(-1, 8), INDEX);
        NightDiary many = diaryOfSeams(49, 50, 49, 50, 49, 50, 49, 50, 49, 50, 49, 50, 49, 50, 49, 50, 49, 50, 49, 50);
        due("pieceOf(4, 6) of ten", many.pieceOf(4, 6), 1023 - 16);
    }

    private static void receipt() {
        promise = "promise 14, receipt";
        NightDiary diary = diaryOf("719@3:10+20=30;2220@4:5+5+5=50", "719@3:30=31;719@3:15+15=30;2220@5:15=15",
                "719@3:29=29;720@3:30=30");
        int[] wants = {719, 3, 2, 30, 30, 0, 0, 11, 2};
        for (int what = 0; what < wants.length; what++) {
            due("receipt(0, 0, " + what + ")", diary.receipt(0, 0, what), wants[what]);
        }
        int[] next = {2220, 4, 3, 15, 50, 4, 2, 13, 0};
        for (int what = 0; what < next.length; what++) {
            due("receipt(0, 1, " + what + ")", diary.receipt(0, 1, what), next[what]);
        }
        due("alike, but not on one piece", diary.receipt(1, 0, 8), 1);
        due("not alike by its sum", diary.receipt(2, 0, 8), 0);
        due("not alike by its time", diary.receipt(2, 1, 8), 0);
        due("not alike by its shop", diary.receipt(1, 2, 8), 0);
        due("page from noon", diary.receipt(2, 1, 6), 1);
        due("hour from noon", diary.receipt(2, 1, 7), 12);
        NightDiary late = diaryOf("9999@0:1=1", "1439@0:1=1;1440@0:1=1;2159@0:1=1;2160@0:1=1");
        due("the last page", late.receipt(0, 0, 6), 7);
        due("the last hour", late.receipt(0, 0, 7), 22);
        due("hour before midnight", late.receipt(1, 0, 7), 23);
        due("hour from midnight", late.receipt(1, 1, 7), 0);
        due("page past midnight", late.receipt(1, 1, 6), 1);
        due("page before noon", late.receipt(1, 2, 6), 1);
        due("page from the next noon", late.receipt(1, 3, 6), 2);
        dueThrow("receipt(0, 0, 9)", () -> diary.receipt(0, 0, 9), ARGUMENT);
        dueThrow("receipt(0, 0, -1)", () -> diary.receipt(0, 0, -1), ARGUMENT);
        dueThrow("receipt(0, 2, 9)", () -> diary.receipt(0, 2, 9), INDEX);
        dueThrow("receipt(0, -1, 0)", () -> diary.receipt(0, -1, 0), INDEX);
        dueThrow("receipt(3, 0, 0)", () -> diary.receipt(3, 0, 0), INDEX);
        dueThrow("receipt(10, 0, 0)", () -> diary.receipt(10, 0, 0), INDEX);
        dueThrow("receipt(-1, 0, 0)", () -> diary.receipt(-1, 0, 0), INDEX);
    }

    private static void dueKind(String items, int printed, int kind) {
        NightDiary diary = diaryOf("0@0:" + items + "=" + printed);
        due("how " + printed + " is for " + items, diary.receipt(0, 0, 5), kind);
        due("count of that", diary.count(4 + kind), 1);
    }

    private static void checking() {
        promise = "promise 14, how printed totals are";
        dueKind("42", 42, 0);
        dueKind("11", 11, 0);
        dueKind("42", 24, 1);
        dueKind("123", 213, 1);
        dueKind("123", 132, 1);
        dueKind("123", 321, 4);
        dueKind("999+235", 2134, 1);
        dueKind("999+235", 1324, 1);
        dueKind("999+235", 1243, 1);
        dueKind("999+235", 2143, 4);
        dueKind("999+235", 4231, 4);
        dueKind("20", 2, 4);
        dueKind("100", 10, 4);
        dueKind("101", 11, 4);
        dueKind("100", 1000, 4);
        dueKind("5", 50, 4);
        dueKind("120", 210, 1);
        dueKind("120", 102, 1);
        dueKind("5", 0, 2);
        dueKind("5", 10, 3);
        dueKind("5", 5, 0);
        dueKind("10+20", 10, 2);
        dueKind("10+20", 20, 2);
        dueKind("10+20", 40, 3);
        dueKind("10+20", 50, 3);
        dueKind("10+20", 0, 4);
        dueKind("10+20", 3, 4);
        dueKind("10+20", 60, 4);
        dueKind("1+2+3+4", 6, 2);
        dueKind("1+2+3+4", 14, 3);
        dueKind("1+2+3+4", 11, 3);
        dueKind("1+2+3+4", 1, 4);
        // Turned comes ahead of short and of twice: 12 is 21 without 9, and 43 is 34 with 9 once more.
        dueKind("9+12", 12, 1);
        dueKind("25+9", 43, 1);
        dueKind("999+999+999+999", 9999, 4);
        dueKind("999+999+999+999", 9396, 1);
        dueKind("999+999+999+999", 9693, 4);
        dueKind("999+999+999+999", 3969, 1);
        dueKind("999+999+999+999", 2997, 2);
        dueKind("999+999+999+999", 4995, 3);
    }

    private static void page() {
        promise = "promise 15, page";
        NightDiary diary = diaryOf("719@3:10+20=30;720@4:5=9;2159@9:8=8;2160@0:1=1", "800@4:6=7");
        int[] first = {1, 30, 30, 0, 8};
        int[] second = {3, 19, 24, 2, 16 + 512};
        int[] third = {1, 1, 1, 0, 1};
        for (int what = 0; what < 5; what++) {
            due("page(0, " + what + ")", diary.page(0, what), first[what]);
            due("page(1, " + what + ")", diary.page(1, what), second[what]);
            due("page(2, " + what + ")", diary.page(2, what), third[what]);
            due("page(7, " + what + ")", diary.page(7, what), 0);
        }
        paste(diary, 0, "9360@1:1=2;9999@2:3=4");
        due("page(7, 0)", diary.page(7, 0), 2);
        due("page(6, 0)", diary.page(6, 0), 0);
        dueThrow("page(-1, 0)", () -> diary.page(-1, 0), ARGUMENT);
        dueThrow("page(8, 0)", () -> diary.page(8, 0), ARGUMENT);
        dueThrow("page(0, -1)", () -> diary.page(0, -1), ARGUMENT);
        dueThrow("page(0, 5)", () -> diary.page(0, 5), ARGUMENT);
    }

    private static void dueLine(NightDiary diary, int page, int line, int piece, int number, int sum) {
        due("line(" + page + ", " + line + ", 0)", diary.line(page, line, 0), piece);
        due("line(" + page + ", " + line + ", 1)", diary.line(page, line, 1), number);
        due("line(" + page + ", " + line + ", 2)", diary.line(page, line, 2), sum);
    }

    private static void line() {
        promise = "promise 16, line";
        NightDiary diary = diaryOf("730@0:1=1;800@0:2=2;800@1:3=3", "719@0:4=4;800@0:5=5",
                "720@0:6=0;800@0:7=7;3000@0:8=8");
        dueLine(diary, 0, 0, 1, 0, 4);
        dueLine(diary, 0, 1, NONE, NONE, NONE);
        dueLine(diary, 1, 0, 2, 0, 6);
        dueLine(diary, 1, 1, 0, 0, 1);
        dueLine(diary, 1, 2, 0, 1, 2);
        dueLine(diary, 1, 3, 0, 2, 3);
        dueLine(diary, 1, 4, 1, 1, 5);
        dueLine(diary, 1, 5, 2, 1, 7);
        dueLine(diary, 1, 6, NONE, NONE, NONE);
        dueLine(diary, 2, 0, 2, 2, 8);
        dueLine(diary, 7, 0, NONE, NONE, NONE);
        dueLine(diary, 1, Integer.MAX_VALUE, NONE, NONE, NONE);
        dueThrow("line(8, 0, 0)", () -> diary.line(8, 0, 0), ARGUMENT);
        dueThrow("line(-1, 0, 0)", () -> diary.line(-1, 0, 0), ARGUMENT);
        dueThrow("line(0, -1, 0)", () -> diary.line(0, -1, 0), ARGUMENT);
        dueThrow("line(0, 0, 3)", () -> diary.line(0, 0, 3), ARGUMENT);
        dueThrow("line(0, 0, -1)", () -> diary.line(0, 0, -1), ARGUMENT);
        dueThrow("line(7, 0, 3) without a line", () -> diary.line(7, 0, 3), ARGUMENT);
    }

    private static void sum() {
        promise = "promise 17, sum";
        NightDiary diary = diaryOf("59@0:1=9;60@0:2=9;1439@9:4=9", "60@9:8=9;1440@0:16=9;1500@1:32=9");
        due("sum(NONE, NONE)", diary.sum(NONE, NONE), 63);
        due("sum(0, NONE)", diary.sum(0, NONE), 19);
        due("sum(9, NONE)", diary.sum(9, NONE), 12);
        due("sum(2, NONE)", diary.sum(2, NONE), 0);
        due("sum(NONE, 0)", diary.sum(NONE, 0), 17);
        due("sum(NONE, 1)", diary.sum(NONE, 1), 42);
        due("sum(NONE, 23)", diary.sum(NONE, 23), 4);
        due("sum(0, 1)", diary.sum(0, 1), 2);
        due("sum(9, 23)", diary.sum(9, 23), 4);
        due("sum(9, 0)", diary.sum(9, 0), 0);
        dueThrow("sum(10, 0)", () -> diary.sum(10, 0), ARGUMENT);
        dueThrow("sum(-2, 0)", () -> diary.sum(-2, 0), ARGUMENT);
        dueThrow("sum(0, 24)", () -> diary.sum(0, 24), ARGUMENT);
        dueThrow("sum(0, -2)", () -> diary.sum(0, -2), ARGUMENT);
        dueThrow("sum(NONE, 24)", () -> diary.sum(NONE, 24), ARGUMENT);
        dueThrow("sum(10, NONE)", () -> diary.sum(10, NONE), ARGUMENT);
    }

    private static void count() {
        promise = "promise 18, count";
        NightDiary diary = diaryOfSeams(49, 50, 49, 50, 1, 1);
        paste(diary, 0, "1@0:42=42;2@0:42=24;3@0:42=0");
        paste(diary, 1, "3@0:42=84;800@0:42=5;9000@1:3+4=8");
        paste(diary, 2, "3@0:42=42;3@0:41=41");
        diary.join(0, 1);
        int[] wants = {3, 2, 8, 300, 3, 1, 1, 1, 2, 1, 3, 3, 6};
        for (int what = 0; what < wants.length; what++) {
            due("count(" + what + ")", diary.count(what), wants[what]);
        }
        diary.part(0);
        due("rolls", diary.count(1), 3);
        due("joins", diary.count(9), 0);
        due("pairs with the first receipt", diaryOf("1@1:1=1", "1@1:1=2").count(10), 1);
        due("pages of the first receipt", diaryOf("1@1:1=1").count(11), 1);
        dueThrow("count(-1)", () -> diary.count(-1), ARGUMENT);
        dueThrow("count(13)", () -> diary.count(13), ARGUMENT);
    }

    private static void fits() {
        promise = "promise 19, fits";
        NightDiary diary = diaryOfSeams(49, 50, 49, 50, 49, 50, 49, 50, 48, 51);
        paste(diary, 0, "9@0:1=1");
        paste(diary, 3, "8@0:1=1");
        due("fits(0, 1)", diary.fits(0, 1), 0);
        due("seams", diary.fits(0, 4), 1);
        due("seams the other way", diary.fits(4, 0), 1);
        due("the same, seams", diary.fits(4, 4), 4);
        due("the same", diary.fits(1, 1), 4);
        due("times", diary.fits(0, 3), 5);
        due("times the other way", diary.fits(3, 0), 0);
        diary.join(1, 2);
        due("upper joined", diary.fits(1, 0), 2);
        due("upper joined, ahead of lower joined", diary.fits(1, 2), 2);
        due("upper joined, ahead of the same", diary.fits(1, 1), 2);
        due("seams ahead of upper joined", diary.fits(1, 4), 1);
        due("lower joined", diary.fits(0, 2), 3);
        due("lower joined ahead of the same", diary.fits(2, 2), 3);
        due("one roll", diary.fits(2, 1), 4);
        diary.join(0, 1);
        due("times of the roll", diary.fits(2, 3), 5);
        dueThrow("fits(5, 0)", () -> diary.fits(5, 0), INDEX);
        dueThrow("fits(0, 5)", () -> diary.fits(0, 5), INDEX);
        dueThrow("fits(-1, 0)", () -> diary.fits(-1, 0), INDEX);
        dueThrow("fits(0, -1)", () -> diary.fits(0, -1), INDEX);
    }

    private static void dueLongest(String what, NightDiary diary, int length, int first, int last) {
        due(what + ", length", diary.longest(0), length);
        due(what + ", first", diary.longest(1), first);
        due(what + ", last", diary.longest(2), last);
    }

    private static void longest() {
        promise = "promise 20, longest";
        dueLongest("without pieces", new NightDiary(), 0, NONE, NONE);
        dueLongest("one piece", diaryOfSeams(49, 50), 1, 0, 0);
        dueLongest("none that fit", diaryOf("", "", ""), 1, 0, 0);
        dueLongest("a chain", diaryOfSeams(69, 40, 10, 20, 79, 30), 3, 1, 0);
        dueLongest("all fit", diaryOfSeams(49, 50, 49, 50, 49, 50), 3, 0, 1);
        NightDiary joined = diaryOfSeams(10, 20, 79, 30, 69, 40, 79, 30);
        joined.join(0, 3);
        dueLongest("joins do not matter", joined, 3, 0, 2);
        NightDiary past = diaryOfSeams(10, 20, 79, 30, 69, 40);
        paste(past, 0, "100@0:1=1");
        paste(past, 2, "99@0:1=1");
        dueLongest("times go on past pieces without receipts", past, 2, 0, 1);
        past.cut(2);
        paste(past, 2, "100@0:1=1");
        dueLongest("equal times", past, 3, 0, 2);
        NightDiary own = diaryOfSeams(10, 20, 79, 30, 69, 40);
        paste(own, 1, "5@0:1=1;100@0:1=1");
        paste(own, 2, "50@0:1=1");
        dueLongest("the last time of a piece counts", own, 2, 0, 1);
        NightDiary later = diaryOfSeams(1, 1, 10, 20, 79, 30, 79, 30, 30, 20);
        dueLongest("lowest first, lowest last", later, 2, 1, 2);
        NightDiary tie = diaryOfSeams(79, 31, 79, 30, 10, 20, 68, 5);
        dueLongest("a longer one by a later first piece", tie, 3, 2, 3);
        NightDiary lasts = diaryOfSeams(1, 50, 49, 60, 39, 7, 49, 50);
        paste(lasts, 2, "50@0:1=1");
        paste(lasts, 3, "100@0:1=1");
        dueLongest("0, 1, 2 and 0, 3, 1", lasts, 3, 0, 1);
        NightDiary firsts = diaryOfSeams(49, 60, 1, 50, 39, 2);
        paste(firsts, 1, "100@0:1=1");
        paste(firsts, 2, "50@0:1=1");
        dueLongest("0, 2 and 1, 0", firsts, 2, 0, 2);
        NightDiary gone = diaryOfSeams(49, 50);
        due("first", gone.longest(1), 0);
        gone.undo();
        dueLongest("without pieces again", gone, 0, NONE, NONE);
        NightDiary ten = diaryOfSeams(49, 50, 49, 50, 49, 50, 49, 50, 49, 50, 49, 50, 49, 50, 49, 50, 49, 50, 49, 50);
        for (int piece = 0; piece < 10; piece++) {
            paste(ten, piece, (9 - piece) + "@0:1=1");
        }
        dueLongest("ten by their times", ten, 10, 9, 0);
        dueThrow("longest(-1)", () -> ten.longest(-1), ARGUMENT);
        dueThrow("longest(3)", () -> ten.longest(3), ARGUMENT);
    }

    private static void hidden() {
        promise = "promise 21, hidden";
        due("without receipts", new NightDiary().hidden(), 0);
        NightDiary diary = diaryOf("0@0:10=7;1@1:10=10", "2@2:5=9999");
        due("both ways", diary.hidden(), 3 + 9994);
        diary.correct(1, 0);
        due("after correct", diary.hidden(), 3);
        diary.cut(1);
        diary.cut(0);
        diary.cut(0);
        due("after cut", diary.hidden(), 0);
    }

    private static void suspect() {
        promise = "promise 22, suspect";
        due("without receipts", new NightDiary().suspect(), NONE);
        due("all right", diaryOf("0@5:10=10").suspect(), NONE);
        due("one wrong", diaryOf("0@5:10=10;0@7:10=11").suspect(), 7);
        due("most wrong, not most hidden", diaryOf("0@5:10=9999;0@7:10=11;0@7:10=9").suspect(), 7);
        due("most wrong, not most receipts", diaryOf("0@5:1=1;0@5:1=1;0@5:1=2;0@7:10=11;0@7:10=9").suspect(), 7);
        due("the greatest difference", diaryOf("0@5:10=12;0@7:10=7").suspect(), 7);
        due("differences by sizes, added", diaryOf("0@5:10=15;0@5:10=5;0@7:10=12;0@7:10=13").suspect(), 5);
        due("the lowest one", diaryOf("0@7:10=12;0@5:10=8").suspect(), 5);
        due("shop 0", diaryOf("0@0:10=12;0@9:10=8").suspect(), 0);
        due("shop 9", diaryOf("0@0:10=10;0@9:10=8").suspect(), 9);
    }

    private static void rightShare() {
        promise = "promise 23, rightShare";
        due("without receipts", bits(new NightDiary().rightShare()), bits(1.0));
        due("none right", bits(diaryOf("0@0:1=2").rightShare()), bits(0.0));
        due("all right", bits(diaryOf("0@0:1=1", "0@0:2=2").rightShare()), bits(1.0));
        due("a third", bits(diaryOf("0@0:1=1;0@0:2=3;0@0:9=8").rightShare()), bits(1.0 / 3));
        due("two fifths", bits(diaryOf("0@0:1=1;0@0:2=3;0@0:9=8", "0@0:7=7;0@0:1=9").rightShare()), bits(2.0 / 5));
    }

    private static long bits(double share) {
        return Double.doubleToLongBits(share);
    }

    /** The hash of the document, by the face alone. */
    private static long hashOf(NightDiary diary, String buffer) {
        long hash = 2897;
        for (int what = 0; what <= 12; what++) {
            hash = 31 * hash + diary.count(what);
        }
        int pieces = diary.count(0);
        for (int piece = 0; piece < pieces; piece++) {
            for (int what = 0; what <= 7; what++) {
                hash = 31 * hash + diary.pieceOf(piece, what);
            }
            int receipts = diary.pieceOf(piece, 2);
            for (int receipt = 0; receipt < receipts; receipt++) {
                for (int what = 0; what <= 8; what++) {
                    hash = 31 * hash + diary.receipt(piece, receipt, what);
                }
            }
        }
        for (int upper = 0; upper < pieces; upper++) {
            for (int lower = 0; lower < pieces; lower++) {
                hash = 31 * hash + diary.fits(upper, lower);
            }
        }
        for (int page = 0; page <= 7; page++) {
            for (int what = 0; what <= 4; what++) {
                hash = 31 * hash + diary.page(page, what);
            }
            for (int line = 0; line < diary.page(page, 0); line++) {
                hash = 31 * hash + diary.line(page, line, 0);
                hash = 31 * hash + diary.line(page, line, 1);
            }
        }
        hash = 31 * hash + diary.sum(NONE, NONE);
        for (int shop = 0; shop <= 9; shop++) {
            hash = 31 * hash + diary.sum(shop, NONE);
        }
        for (int hour = 0; hour <= 23; hour++) {
            hash = 31 * hash + diary.sum(NONE, hour);
        }
        for (int what = 0; what <= 2; what++) {
            hash = 31 * hash + diary.longest(what);
        }
        hash = 31 * hash + diary.hidden();
        hash = 31 * hash + diary.suspect();
        hash = 31 * hash + Double.doubleToLongBits(diary.rightShare());
        hash = 31 * hash + buffer.length();
        for (int index = 0; index < buffer.length(); index++) {
            hash = 31 * hash + buffer.charAt(index);
        }
        return hash;
    }

    private static void dueNoFault(String what, LongSupplier call) {
        String got = "";
        try {
            call.getAsLong();
        } catch (RuntimeException e) {
            got = e.getClass().getSimpleName();
        }
        due(what + " gave " + got, got.isEmpty() || got.equals(INDEX) || got.equals(ARGUMENT) || got.equals(STATE)
                ? 1 : 0, 1);
    }

    private static void extremes() {
        promise = "no call throws by itself";
        int[] numbers = {Integer.MIN_VALUE, -541, -61, -11, -1, 0, 5, 10, 59, 99, 480, 541, Integer.MAX_VALUE};
        for (int one : numbers) {
            NightDiary diary = diaryOf("9999@9:1=2;9999@9:2=2", "9999@9:1=1", "", "5@5:5=5");
            long before = diary.digest();
            dueNoFault("pieces with " + one, () -> one >= 0 && one < 4 ? 0 : diary.cut(one) + diary.part(one));
            dueNoFault("paste of " + one, () -> diary.paste(one));
            dueNoFault("count of " + one, () -> diary.count(one));
            dueNoFault("longest of " + one, () -> diary.longest(one));
            dueNoFault("append of " + one, () -> one >= 33 && one <= 126 ? 0 : diary.append(one));
            for (int other : numbers) {
                String both = one + ", " + other;
                dueNoFault("piece of " + both, () -> one >= 0 && other >= 0 ? 0 : diary.piece(one, other));
                dueNoFault("correct of " + both, () -> one == 0 && other == 0 ? 0 : diary.correct(one, other));
                dueNoFault("join of " + both, () -> diary.join(one, other));
                dueNoFault("pieceOf of " + both, () -> diary.pieceOf(one, other));
                dueNoFault("page of " + both, () -> diary.page(one, other));
                dueNoFault("sum of " + both, () -> diary.sum(one, other));
                dueNoFault("fits of " + both, () -> diary.fits(one, other));
                dueNoFault("line of " + both, () -> diary.line(5, one, other));
                dueNoFault("receipt of " + both, () -> diary.receipt(one, other, 0));
            }
            due("nothing is changed", diary.digest(), before);
        }
    }

    /** A diary after the first so many of some changes: a digest and all looks need two, each within 512 calls. */
    private static NightDiary diaryAfter(int changes) {
        NightDiary diary = new NightDiary();
        for (int change = 0; change < changes; change++) {
            switch (change) {
                case 0:
                    diary.piece(49, 50);
                    diary.piece(49, 50);
                    diary.piece(49, 51);
                    break;
                case 1:
                    paste(diary, 0, "730@1:2+3=5;800@2:3=4");
                    break;
                case 2:
                    write(diary, BUFFER);
                    break;
                case 3:
                    diary.paste(2);
                    break;
                case 4:
                    diary.joinClear();
                    break;
                case 5:
                    diary.correct(0, 1);
                    break;
                case 6:
                    diary.correct(2, 1);
                    break;
                default:
                    diary.cut(0);
                    break;
            }
        }
        return diary;
    }

    private static final String BUFFER = "800@2:3=3;9000@9:1+2+3=60";

    private static void digest() {
        promise = "promise 24, digest";
        for (int changes = 0; changes < 9; changes++) {
            String buffer = changes == 3 ? BUFFER : "";
            NightDiary diary = diaryAfter(changes);
            long hash = diary.digest();
            due("after changes, " + changes, hash, hashOf(diaryAfter(changes), buffer));
            due("again, " + changes, diary.digest(), hash);
        }
        due("none right", diaryOf("1@1:2=3").digest(), hashOf(diaryOf("1@1:2=3"), ""));
        String five = "1@1:1=1;1@1:2=3;1@1:3=3;1@1:4=4;1@1:5=5";
        due("four of five right", diaryOf(five).digest(), hashOf(diaryOf(five), ""));
        due("five of six right", diaryOf(five, "5@5:5=5").digest(), hashOf(diaryOf(five, "5@5:5=5"), ""));
    }
}
