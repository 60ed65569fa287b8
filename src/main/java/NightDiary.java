import java.util.Arrays;

/**
 * A night clerk's diary of torn receipts: pieces of rolls with seams and receipts, the rolls that are
 * joined of them, and what the receipts tell. ../shared/DOC.md says what each call promises.
 *
 * <p>All rows are made with the object and used again, so no call makes an object but an exception.
 */
public final class NightDiary {

    /** There is nothing to return. */
    public static final int NONE = -1;

    private static final int MAX_PIECES = 10;
    private static final int MAX_RECEIPTS = 6;
    private static final int MAX_ITEMS = 4;
    private static final int MAX_SAVED = 6;
    private static final int MAX_BUFFER = 60;
    private static final int MAX_SEAM = 99;
    private static final int SLOTS = MAX_PIECES * MAX_RECEIPTS;
    private static final int SHOPS = 10;
    private static final int HOURS = 24;
    private static final int PAGES = 8;
    private static final int FIRST_CODE = 33;
    private static final int LAST_CODE = 126;

    private static final int PIECE_PROPERTIES = 8;
    private static final int RECEIPT_PROPERTIES = 9;
    private static final int PAGE_NUMBERS = 5;
    private static final int LINE_NUMBERS = 3;
    private static final int NUMBERS = 13;
    private static final int LONGEST_NUMBERS = 3;

    private static final long HASH_START = 2897L;

    private final Book book = new Book();
    private final Buffer buffer = new Buffer();
    private final Reader reader = new Reader();
    private final Lines lines = new Lines();
    private final LongestRow longestRow = new LongestRow();

    public NightDiary() {
    }

    // ---- pieces

    public int piece(int above, int below) throws IllegalArgumentException, IllegalStateException {
        if (!isIn(above, MAX_SEAM + 1) || !isIn(below, MAX_SEAM + 1)) {
            throw new IllegalArgumentException("a seam is not 0 to 99");
        }
        if (book.pieces() >= MAX_PIECES) {
            throw new IllegalStateException("there are 10 pieces");
        }
        book.save();
        return book.addPiece(above, below);
    }

    public int paste(int piece) throws IndexOutOfBoundsException, IllegalArgumentException {
        requirePiece(piece);
        if (!bufferTellsReceipts()) {
            throw new IllegalArgumentException("the buffer does not tell receipts");
        }
        book.save();
        int added = addFromBuffer(piece);
        buffer.clear();
        return added;
    }

    public int cut(int piece) throws IndexOutOfBoundsException, IllegalStateException {
        requirePiece(piece);
        int left = book.receiptsOf(piece) - 1;
        if (left < 0) {
            throw new IllegalStateException("the piece has no receipt");
        }
        book.save();
        book.set(Book.FILLED + piece, left);
        return book.sumOf(Book.slotOf(piece, left));
    }

    public int correct(int piece, int receipt) throws IndexOutOfBoundsException {
        requireReceipt(piece, receipt);
        int slot = Book.slotOf(piece, receipt);
        int before = book.get(Book.PRINTED + slot);
        book.save();
        book.set(Book.PRINTED + slot, book.sumOf(slot));
        return before;
    }

    // ---- joining

    public int join(int upper, int lower) throws IndexOutOfBoundsException, IllegalStateException {
        requirePiece(upper);
        requirePiece(lower);
        if (Joining.obstacle(book, upper, lower) != Joining.NO_OBSTACLE) {
            throw new IllegalStateException("the pieces cannot be joined");
        }
        book.save();
        book.link(upper, lower);
        return book.piecesOfRoll(upper);
    }

    public int part(int piece) throws IndexOutOfBoundsException, IllegalStateException {
        requirePiece(piece);
        int lower = book.get(Book.LOWER + piece);
        if (lower == NONE) {
            throw new IllegalStateException("the piece is not joined to one below");
        }
        book.save();
        book.unlink(piece, lower);
        return lower;
    }

    public int joinClear() {
        book.save();
        return Joining.joinAllClear(book);
    }

    // ---- the buffer

    public int append(int code) throws IllegalArgumentException, IllegalStateException {
        if (code < FIRST_CODE || code > LAST_CODE) {
            throw new IllegalArgumentException("the code is not 33 to 126");
        }
        if (buffer.length() >= MAX_BUFFER) {
            throw new IllegalStateException("the buffer has 60 characters");
        }
        buffer.add(code);
        return buffer.length();
    }

    public int clearBuffer() {
        int before = buffer.length();
        buffer.clear();
        return before;
    }

    public int firstError() {
        return readBuffer();
    }

    public int undo() throws IllegalStateException {
        if (book.savedStates() == 0) {
            throw new IllegalStateException("there is no saved state");
        }
        book.restore();
        return book.savedStates();
    }

    // ---- looks; nothing is changed

    public int pieceOf(int piece, int what) throws IndexOutOfBoundsException, IllegalArgumentException {
        requirePiece(piece);
        requireChoice(what, PIECE_PROPERTIES);
        return pieceProperty(piece, what);
    }

    public int receipt(int piece, int receipt, int what)
            throws IndexOutOfBoundsException, IllegalArgumentException {
        requireReceipt(piece, receipt);
        requireChoice(what, RECEIPT_PROPERTIES);
        return receiptProperty(Book.slotOf(piece, receipt), what);
    }

    public int page(int page, int what) throws IllegalArgumentException {
        requireChoice(page, PAGES);
        requireChoice(what, PAGE_NUMBERS);
        return Tally.numberOfPage(book, page, what);
    }

    public int line(int page, int line, int what) throws IllegalArgumentException {
        requireChoice(page, PAGES);
        requireChoice(what, LINE_NUMBERS);
        if (line < 0) {
            throw new IllegalArgumentException("the line is below 0");
        }
        lines.sort(book);
        int slot = lines.slotAt(book, page, line);
        if (slot == NONE) {
            return NONE;
        }
        switch (what) {
            case 0:
                return Book.pieceOfSlot(slot);
            case 1:
                return Book.numberOfSlot(slot);
            default:
                return book.sumOf(slot);
        }
    }

    public int sum(int shop, int hour) throws IllegalArgumentException {
        if (shop != NONE) {
            requireChoice(shop, SHOPS);
        }
        if (hour != NONE) {
            requireChoice(hour, HOURS);
        }
        return Tally.shopHourSum(book, shop, hour);
    }

    public int count(int what) throws IllegalArgumentException {
        requireChoice(what, NUMBERS);
        return overallNumber(what);
    }

    // ---- what would be; nothing is changed

    public int fits(int upper, int lower) throws IndexOutOfBoundsException {
        requirePiece(upper);
        requirePiece(lower);
        return Joining.obstacle(book, upper, lower);
    }

    public int longest(int what) throws IllegalArgumentException {
        requireChoice(what, LONGEST_NUMBERS);
        longestRow.search(book);
        switch (what) {
            case 0:
                return longestRow.length();
            case 1:
                return longestRow.first();
            default:
                return longestRow.last();
        }
    }

    public int hidden() {
        return Tally.hiddenBy(book, NONE);
    }

    public int suspect() {
        return Tally.leastTrusted(book);
    }

    public double rightShare() {
        return Tally.shareOfRight(book);
    }

    public long digest() {
        long hash = hashWithNumbers(HASH_START);
        hash = hashWithPieces(hash);
        hash = hashWithFits(hash);
        hash = hashWithPages(hash);
        hash = hashWithSums(hash);
        hash = hashWithLongest(hash);
        hash = mixed(hash, Tally.hiddenBy(book, NONE));
        hash = mixed(hash, Tally.leastTrusted(book));
        hash = mixed(hash, Tally.bitsOf(Tally.shareOfRight(book)));
        return hashWithBuffer(hash);
    }

    private static boolean isIn(int number, int end) {
        return number >= 0 && number < end;
    }

    /** Returns the lowest number in a mask: as many bits as stand below its lowest one. */
    private static int lowestOf(int mask) {
        return Integer.bitCount((mask & -mask) - 1);
    }

    private static void requireChoice(int choice, int end) {
        if (!isIn(choice, end)) {
            throw new IllegalArgumentException("an argument is out of range");
        }
    }

    private void requirePiece(int piece) {
        if (!isIn(piece, book.pieces())) {
            throw new IndexOutOfBoundsException("there is no such piece");
        }
    }

    private void requireReceipt(int piece, int receipt) {
        requirePiece(piece);
        if (!isIn(receipt, book.receiptsOf(piece))) {
            throw new IndexOutOfBoundsException("there is no such receipt");
        }
    }

    /** Returns the index of the first syntax error; the reader stands behind what was read before it. */
    private int readBuffer() {
        reader.restart();
        for (int index = 0; index < buffer.length(); index++) {
            if (!reader.accept(buffer.codeAt(index))) {
                return index;
            }
        }
        return buffer.length();
    }

    private boolean bufferTellsReceipts() {
        return readBuffer() == buffer.length() && reader.isAtEndOfReceipt();
    }

    private int addFromBuffer(int piece) {
        int added = 0;
        reader.restart();
        for (int index = 0; index < buffer.length(); index++) {
            int code = buffer.codeAt(index);
            // Behind the ";" the reader begins the next receipt and forgets this one.
            if (code == ';') {
                if (!addRead(piece)) {
                    return added;
                }
                added++;
            }
            reader.accept(code);
        }
        return addRead(piece) ? added + 1 : added;
    }

    private boolean addRead(int piece) {
        int receipts = book.receiptsOf(piece);
        int time = reader.time();
        if (receipts >= MAX_RECEIPTS
                || time < book.lastTimeUpTo(piece)
                || time > book.firstTimeFrom(book.get(Book.LOWER + piece))) {
            return false;
        }
        int slot = Book.slotOf(piece, receipts);
        book.set(Book.TIME + slot, time);
        book.set(Book.SHOP + slot, reader.shop());
        book.set(Book.PRINTED + slot, reader.printed());
        book.set(Book.ITEMS + slot, reader.items());
        for (int item = 0; item < reader.items(); item++) {
            book.set(Book.ITEM + slot * MAX_ITEMS + item, reader.itemAt(item));
        }
        book.set(Book.FILLED + piece, receipts + 1);
        return true;
    }

    private int pieceProperty(int piece, int what) {
        switch (what) {
            case 0:
                return book.get(Book.ABOVE + piece);
            case 1:
                return book.get(Book.BELOW + piece);
            case 2:
                return book.receiptsOf(piece);
            case 3:
                return book.get(Book.UPPER + piece);
            case 4:
                return book.get(Book.LOWER + piece);
            case 5:
                return book.firstOfRoll(piece);
            case 6:
                return Joining.lowersOf(book, piece);
            default:
                return Tally.sumOfPiece(book, piece);
        }
    }

    private int receiptProperty(int slot, int what) {
        switch (what) {
            case 0:
                return book.get(Book.TIME + slot);
            case 1:
                return book.get(Book.SHOP + slot);
            case 2:
                return book.get(Book.ITEMS + slot);
            case 3:
                return book.sumOf(slot);
            case 4:
                return book.get(Book.PRINTED + slot);
            case 5:
                return Checking.kindOf(book, slot);
            case 6:
                return book.pageOfSlot(slot);
            case 7:
                return book.hourOfSlot(slot);
            default:
                return Tally.alikeTo(book, slot);
        }
    }

    private int overallNumber(int what) {
        switch (what) {
            case 0:
                return book.pieces();
            case 1:
                // Each join makes one roll of two.
                return book.pieces() - book.joins();
            case 2:
                return Tally.receiptsOf(book);
            case 3:
                return Tally.shopHourSum(book, NONE, NONE);
            case 9:
                return book.joins();
            case 10:
                return Tally.alikePairs(book);
            case 11:
                return Tally.pagesUsed(book);
            case 12:
                return book.savedStates();
            default:
                return Tally.receiptsOfKind(book, what - 4);
        }
    }

    private static long mixed(long hash, long value) {
        return 31L * hash + value;
    }

    private long hashWithNumbers(long start) {
        long hash = start;
        for (int what = 0; what < NUMBERS; what++) {
            hash = mixed(hash, overallNumber(what));
        }
        return hash;
    }

    private long hashWithPieces(long start) {
        long hash = start;
        for (int piece = 0; piece < book.pieces(); piece++) {
            for (int what = 0; what < PIECE_PROPERTIES; what++) {
                hash = mixed(hash, pieceProperty(piece, what));
            }
            for (int receipt = 0; receipt < book.receiptsOf(piece); receipt++) {
                for (int what = 0; what < RECEIPT_PROPERTIES; what++) {
                    hash = mixed(hash, receiptProperty(Book.slotOf(piece, receipt), what));
                }
            }
        }
        return hash;
    }

    private long hashWithFits(long start) {
        long hash = start;
        for (int upper = 0; upper < book.pieces(); upper++) {
            for (int lower = 0; lower < book.pieces(); lower++) {
                hash = mixed(hash, Joining.obstacle(book, upper, lower));
            }
        }
        return hash;
    }

    private long hashWithPages(long start) {
        long hash = start;
        lines.sort(book);
        for (int page = 0; page < PAGES; page++) {
            for (int what = 0; what < PAGE_NUMBERS; what++) {
                hash = mixed(hash, Tally.numberOfPage(book, page, what));
            }
            for (int place = 0; place < lines.receipts(); place++) {
                int slot = lines.slotInOrder(place);
                if (book.pageOfSlot(slot) == page) {
                    hash = mixed(hash, Book.pieceOfSlot(slot));
                    hash = mixed(hash, Book.numberOfSlot(slot));
                }
            }
        }
        return hash;
    }

    private long hashWithSums(long start) {
        long hash = mixed(start, Tally.shopHourSum(book, NONE, NONE));
        for (int shop = 0; shop < SHOPS; shop++) {
            hash = mixed(hash, Tally.shopHourSum(book, shop, NONE));
        }
        for (int hour = 0; hour < HOURS; hour++) {
            hash = mixed(hash, Tally.shopHourSum(book, NONE, hour));
        }
        return hash;
    }

    private long hashWithLongest(long start) {
        longestRow.search(book);
        long hash = mixed(start, longestRow.length());
        hash = mixed(hash, longestRow.first());
        return mixed(hash, longestRow.last());
    }

    private long hashWithBuffer(long start) {
        long hash = mixed(start, buffer.length());
        for (int index = 0; index < buffer.length(); index++) {
            hash = mixed(hash, buffer.codeAt(index));
        }
        return hash;
    }

    /**
     * The pieces, their receipts and joins, and the saved states of them.
     *
     * <p>All of a state stands in one row, column after column, so that one copy saves or restores it.
     * A receipt is told by its slot: the slots of a piece follow one another.
     */
    private static final class Book {
        static final int PIECES = 0;
        static final int ABOVE = PIECES + 1;
        static final int BELOW = ABOVE + MAX_PIECES;
        static final int UPPER = BELOW + MAX_PIECES;
        static final int LOWER = UPPER + MAX_PIECES;
        static final int FILLED = LOWER + MAX_PIECES;
        static final int TIME = FILLED + MAX_PIECES;
        static final int SHOP = TIME + SLOTS;
        static final int PRINTED = SHOP + SLOTS;
        static final int ITEMS = PRINTED + SLOTS;
        static final int ITEM = ITEMS + SLOTS;
        static final int CELLS = ITEM + SLOTS * MAX_ITEMS;

        /** Before and after all times: they stand for receipts that are not there. */
        static final int BEFORE_ALL = -1;
        static final int AFTER_ALL = 10000;

        private static final int DAY = 1440;
        private static final int NOON = 720;
        private static final int HOUR = 60;

        private final int[] cells = new int[CELLS];
        private final int[] saved = new int[CELLS * MAX_SAVED];
        private int savedStates = 0;

        int get(int cell) {
            return cell >= 0 && cell < CELLS ? cells[cell] : 0;
        }

        void set(int cell, int value) {
            if (cell >= 0 && cell < CELLS) {
                cells[cell] = value;
            }
        }

        void save() {
            if (savedStates >= MAX_SAVED) {
                System.arraycopy(saved, CELLS, saved, 0, CELLS * (MAX_SAVED - 1));
                savedStates = MAX_SAVED - 1;
            }
            if (savedStates >= 0) {
                System.arraycopy(cells, 0, saved, savedStates * CELLS, CELLS);
                savedStates++;
            }
        }

        void restore() {
            if (savedStates > 0 && savedStates <= MAX_SAVED) {
                savedStates--;
                System.arraycopy(saved, savedStates * CELLS, cells, 0, CELLS);
            }
        }

        int savedStates() {
            return savedStates;
        }

        int pieces() {
            return get(PIECES);
        }

        int receiptsOf(int piece) {
            return get(FILLED + piece);
        }

        static int slotOf(int piece, int number) {
            return piece * MAX_RECEIPTS + number;
        }

        static int pieceOfSlot(int slot) {
            return slot / MAX_RECEIPTS;
        }

        static int numberOfSlot(int slot) {
            return slot % MAX_RECEIPTS;
        }

        boolean isUsed(int slot) {
            return slot % MAX_RECEIPTS < get(FILLED + slot / MAX_RECEIPTS);
        }

        int sumOf(int slot) {
            int sum = 0;
            int items = get(ITEMS + slot);
            for (int item = 0; item < items; item++) {
                sum += get(ITEM + slot * MAX_ITEMS + item);
            }
            return sum;
        }

        int pageOfSlot(int slot) {
            return (get(TIME + slot) + NOON) / DAY;
        }

        int hourOfSlot(int slot) {
            return get(TIME + slot) / HOUR % HOURS;
        }

        int addPiece(int above, int below) {
            int piece = pieces();
            set(ABOVE + piece, above);
            set(BELOW + piece, below);
            set(UPPER + piece, NONE);
            set(LOWER + piece, NONE);
            set(FILLED + piece, 0);
            set(PIECES, piece + 1);
            return piece;
        }

        void link(int upper, int lower) {
            set(LOWER + upper, lower);
            set(UPPER + lower, upper);
        }

        void unlink(int upper, int lower) {
            set(LOWER + upper, NONE);
            set(UPPER + lower, NONE);
        }

        int joins() {
            int joins = 0;
            for (int piece = 0; piece < pieces(); piece++) {
                if (get(LOWER + piece) != NONE) {
                    joins++;
                }
            }
            return joins;
        }

        int firstOfRoll(int piece) {
            int first = piece;
            for (int step = 0; step < MAX_PIECES; step++) {
                int upper = get(UPPER + first);
                if (upper == NONE) {
                    return first;
                }
                first = upper;
            }
            return first;
        }

        int piecesOfRoll(int piece) {
            int pieces = 0;
            int next = firstOfRoll(piece);
            for (int step = 0; step < MAX_PIECES && next != NONE; step++) {
                pieces++;
                next = get(LOWER + next);
            }
            return pieces;
        }

        /** Returns the time of the last receipt on a piece or above it in its roll. */
        int lastTimeUpTo(int piece) {
            int upper = piece;
            for (int step = 0; step < MAX_PIECES && upper != NONE; step++) {
                int receipts = get(FILLED + upper);
                if (receipts > 0) {
                    return get(TIME + upper * MAX_RECEIPTS + receipts - 1);
                }
                upper = get(UPPER + upper);
            }
            return BEFORE_ALL;
        }

        /** Returns the time of the first receipt on a piece, if there is a piece, or below it in its roll. */
        int firstTimeFrom(int piece) {
            int lower = piece;
            for (int step = 0; step < MAX_PIECES && lower != NONE; step++) {
                if (get(FILLED + lower) > 0) {
                    return get(TIME + lower * MAX_RECEIPTS);
                }
                lower = get(LOWER + lower);
            }
            return AFTER_ALL;
        }
    }

    /** How printed totals are wrong. */
    private static final class Checking {
        static final int RIGHT = 0;
        static final int TURNED = 1;
        static final int SHORT = 2;
        static final int TWICE = 3;
        static final int WRONG = 4;

        static int kindOf(Book book, int slot) {
            int sum = book.sumOf(slot);
            int printed = book.get(Book.PRINTED + slot);
            if (printed == sum) {
                return RIGHT;
            }
            if (isTurned(sum, printed)) {
                return TURNED;
            }
            if (hasItem(book, slot, sum - printed)) {
                return SHORT;
            }
            if (hasItem(book, slot, printed - sum)) {
                return TWICE;
            }
            return WRONG;
        }

        private static boolean isTurned(int sum, int printed) {
            if (digitsOf(sum) != digitsOf(printed)) {
                return false;
            }
            int ones = sum % 10;
            int tens = sum / 10 % 10;
            int hundreds = sum / 100 % 10;
            int thousands = sum / 1000 % 10;
            // A digit that moves up one place gains nine times its place, its neighbour loses that.
            // Zeros ahead of the sum need no test: exchanged with a digit, they change how many there are.
            int change = printed - sum;
            return change == 9 * (ones - tens)
                    || change == 90 * (tens - hundreds)
                    || change == 900 * (hundreds - thousands);
        }

        private static int digitsOf(int number) {
            if (number < 10) {
                return 1;
            }
            if (number < 100) {
                return 2;
            }
            return number < 1000 ? 3 : 4;
        }

        private static boolean hasItem(Book book, int slot, int amount) {
            int items = book.get(Book.ITEMS + slot);
            for (int item = 0; item < items; item++) {
                if (book.get(Book.ITEM + slot * MAX_ITEMS + item) == amount) {
                    return true;
                }
            }
            return false;
        }
    }

    /** Which pieces can be joined, and the joins of those that leave no choice. */
    private static final class Joining {
        static final int NO_OBSTACLE = 0;
        private static final int SEAMS_DIFFER = 1;
        private static final int UPPER_IS_JOINED = 2;
        private static final int LOWER_IS_JOINED = 3;
        private static final int ONE_ROLL = 4;
        private static final int TIMES_GO_BACK = 5;

        static int obstacle(Book book, int upper, int lower) {
            if (book.get(Book.BELOW + upper) + book.get(Book.ABOVE + lower) != MAX_SEAM) {
                return SEAMS_DIFFER;
            }
            if (book.get(Book.LOWER + upper) != NONE) {
                return UPPER_IS_JOINED;
            }
            if (book.get(Book.UPPER + lower) != NONE) {
                return LOWER_IS_JOINED;
            }
            // From here the upper piece is the last of its roll, the lower one the first of its own.
            if (book.firstOfRoll(upper) == lower) {
                return ONE_ROLL;
            }
            return book.lastTimeUpTo(upper) > book.firstTimeFrom(lower) ? TIMES_GO_BACK : NO_OBSTACLE;
        }

        /** Returns the pieces that can be joined below one, as a mask. */
        static int lowersOf(Book book, int upper) {
            int mask = 0;
            for (int lower = 0; lower < book.pieces(); lower++) {
                if (obstacle(book, upper, lower) == NO_OBSTACLE) {
                    mask |= 1 << lower;
                }
            }
            return mask;
        }

        static int joinAllClear(Book book) {
            int joins = 0;
            // Each join leaves one roll less, so there are fewer joins than pieces.
            for (int turn = 0; turn < MAX_PIECES; turn++) {
                int upper = lowestClear(book);
                if (upper == NONE) {
                    return joins;
                }
                book.link(upper, lowestOf(lowersOf(book, upper)));
                joins++;
            }
            return joins;
        }

        private static int lowestClear(Book book) {
            for (int upper = 0; upper < book.pieces(); upper++) {
                int lowers = lowersOf(book, upper);
                if (Integer.bitCount(lowers) == 1 && uppersOf(book, lowestOf(lowers)) == 1) {
                    return upper;
                }
            }
            return NONE;
        }

        /** Returns how many pieces there are below which one can be joined. */
        private static int uppersOf(Book book, int lower) {
            int uppers = 0;
            for (int upper = 0; upper < book.pieces(); upper++) {
                if (obstacle(book, upper, lower) == NO_OBSTACLE) {
                    uppers++;
                }
            }
            return uppers;
        }
    }

    /** Numbers and sums over the receipts. */
    private static final class Tally {
        private static final int MANTISSA_BITS = 52;
        private static final long EXPONENT_OF_ONE = 1023L;

        static int receiptsOf(Book book) {
            int receipts = 0;
            for (int piece = 0; piece < book.pieces(); piece++) {
                receipts += book.receiptsOf(piece);
            }
            return receipts;
        }

        static int receiptsOfKind(Book book, int kind) {
            int receipts = 0;
            for (int slot = 0; slot < SLOTS; slot++) {
                if (book.isUsed(slot) && Checking.kindOf(book, slot) == kind) {
                    receipts++;
                }
            }
            return receipts;
        }

        static int sumOfPiece(Book book, int piece) {
            int sum = 0;
            for (int receipt = 0; receipt < book.receiptsOf(piece); receipt++) {
                sum += book.sumOf(Book.slotOf(piece, receipt));
            }
            return sum;
        }

        /** Returns how many receipts are alike one: unlike pieces, the same times, shops and sums. */
        static int alikeTo(Book book, int slot) {
            int alike = 0;
            int time = book.get(Book.TIME + slot);
            int shop = book.get(Book.SHOP + slot);
            int sum = book.sumOf(slot);
            for (int other = 0; other < SLOTS; other++) {
                // The time comes first, though it may be an old one of an unused slot: it differs mostly.
                if (book.get(Book.TIME + other) == time
                        && book.get(Book.SHOP + other) == shop
                        && book.isUsed(other)
                        && Book.pieceOfSlot(other) != Book.pieceOfSlot(slot)
                        && book.sumOf(other) == sum) {
                    alike++;
                }
            }
            return alike;
        }

        static int alikePairs(Book book) {
            int twice = 0;
            for (int slot = 0; slot < SLOTS; slot++) {
                if (book.isUsed(slot)) {
                    twice += alikeTo(book, slot);
                }
            }
            return twice / 2;
        }

        static int pagesUsed(Book book) {
            int mask = 0;
            for (int slot = 0; slot < SLOTS; slot++) {
                if (book.isUsed(slot)) {
                    mask |= 1 << book.pageOfSlot(slot);
                }
            }
            return Integer.bitCount(mask);
        }

        static int numberOfPage(Book book, int page, int what) {
            int number = 0;
            for (int slot = 0; slot < SLOTS; slot++) {
                if (!book.isUsed(slot) || book.pageOfSlot(slot) != page) {
                    continue;
                }
                switch (what) {
                    case 0:
                        number++;
                        break;
                    case 1:
                        number += book.sumOf(slot);
                        break;
                    case 2:
                        number += book.get(Book.PRINTED + slot);
                        break;
                    case 3:
                        number += sizeHidden(book, slot) > 0 ? 1 : 0;
                        break;
                    default:
                        number |= 1 << book.get(Book.SHOP + slot);
                        break;
                }
            }
            return number;
        }

        static int shopHourSum(Book book, int shop, int hour) {
            int sum = 0;
            for (int slot = 0; slot < SLOTS; slot++) {
                if (book.isUsed(slot)
                        && (shop == NONE || book.get(Book.SHOP + slot) == shop)
                        && (hour == NONE || book.hourOfSlot(slot) == hour)) {
                    sum += book.sumOf(slot);
                }
            }
            return sum;
        }

        private static int sizeHidden(Book book, int slot) {
            return Math.abs(book.sumOf(slot) - book.get(Book.PRINTED + slot));
        }

        /** Returns what the printed totals of a shop hide, or with NONE, those of all shops. */
        static int hiddenBy(Book book, int shop) {
            int hidden = 0;
            for (int slot = 0; slot < SLOTS; slot++) {
                if (book.isUsed(slot) && (shop == NONE || book.get(Book.SHOP + slot) == shop)) {
                    hidden += sizeHidden(book, slot);
                }
            }
            return hidden;
        }

        private static int notRightOf(Book book, int shop) {
            int receipts = 0;
            for (int slot = 0; slot < SLOTS; slot++) {
                if (book.isUsed(slot) && book.get(Book.SHOP + slot) == shop && sizeHidden(book, slot) > 0) {
                    receipts++;
                }
            }
            return receipts;
        }

        static int leastTrusted(Book book) {
            int found = NONE;
            int most = 0;
            int greatest = 0;
            for (int shop = 0; shop < SHOPS; shop++) {
                int notRight = notRightOf(book, shop);
                int hidden = hiddenBy(book, shop);
                // Without a wrong total nothing is hidden: such a shop is never taken.
                if (notRight > most || notRight == most && hidden > greatest) {
                    found = shop;
                    most = notRight;
                    greatest = hidden;
                }
            }
            return found;
        }

        static double shareOfRight(Book book) {
            int all = receiptsOf(book);
            if (all == 0) {
                return 1.0;
            }
            return (double) receiptsOfKind(book, Checking.RIGHT) / (double) all;
        }

        /**
         * Returns the bits of a share, 0 to 1, as Double.doubleToLongBits would: LANGUAGE.md leaves no Double.
         * No share is so small that its bits are those of a subnormal number.
         */
        static long bitsOf(double share) {
            double scaled = share;
            if (scaled <= 0.0) {
                return 0L;
            }
            for (long exponent = EXPONENT_OF_ONE; exponent > 0L; exponent--) {
                if (scaled >= 1.0) {
                    return (exponent << MANTISSA_BITS) + (long) ((scaled - 1.0) * (double) (1L << MANTISSA_BITS));
                }
                scaled = scaled * 2.0;
            }
            return 0L;
        }
    }

    /** The receipts in the order of the pages. */
    private static final class Lines {
        private final int[] slots = new int[SLOTS];
        private int receipts = 0;

        /** Sorts the receipts of a book; a page's lines stand together, since its times do. */
        void sort(Book book) {
            receipts = 0;
            for (int slot = 0; slot < SLOTS; slot++) {
                if (book.isUsed(slot)) {
                    insert(book, slot);
                }
            }
        }

        /** Slots come by pieces and numbers, so one that comes later stands behind those of its time. */
        private void insert(Book book, int slot) {
            int time = book.get(Book.TIME + slot);
            int place = receipts;
            while (place > 0 && book.get(Book.TIME + slotInOrder(place - 1)) > time) {
                put(place, slotInOrder(place - 1));
                place--;
            }
            put(place, slot);
            receipts++;
        }

        private void put(int place, int slot) {
            if (place >= 0 && place < SLOTS) {
                slots[place] = slot;
            }
        }

        int receipts() {
            return receipts;
        }

        int slotInOrder(int place) {
            return place >= 0 && place < SLOTS ? slots[place] : 0;
        }

        int slotAt(Book book, int page, int line) {
            int ahead = 0;
            for (int place = 0; place < receipts; place++) {
                int slot = slotInOrder(place);
                if (book.pageOfSlot(slot) == page) {
                    if (ahead == line) {
                        return slot;
                    }
                    ahead++;
                }
            }
            return NONE;
        }
    }

    /**
     * The longest row of pieces that could be joined.
     *
     * <p>It is searched over sets of pieces: the last time in a row depends on its set alone, so for one
     * first piece a set needs just the pieces with which a row of it can end.
     */
    private static final class LongestRow {
        private static final int SETS = 1 << MAX_PIECES;

        private final int[] ends = new int[SETS];
        private final int[] latest = new int[SETS];
        private final int[] fitting = new int[MAX_PIECES];
        private final int[] earliest = new int[MAX_PIECES];
        private int pieces = 0;
        private int length = 0;
        private int first = NONE;
        private int last = NONE;

        int length() {
            return length;
        }

        int first() {
            return first;
        }

        int last() {
            return last;
        }

        void search(Book book) {
            pieces = Math.min(book.pieces(), MAX_PIECES);
            length = 0;
            first = NONE;
            last = NONE;
            latest[0] = Book.BEFORE_ALL;
            for (int piece = 0; piece < pieces; piece++) {
                lookAt(book, piece);
            }
            // A later first piece only counts with a longer row, and none is longer than all pieces.
            for (int piece = 0; piece < pieces && length < pieces; piece++) {
                searchFrom(piece);
            }
        }

        /** Notes what of a piece matters in rows, by itself, whatever it is joined to. */
        private void lookAt(Book book, int piece) {
            int receipts = book.receiptsOf(piece);
            int slot = Book.slotOf(piece, 0);
            int lastTime = receipts > 0 ? book.get(Book.TIME + slot + receipts - 1) : Book.BEFORE_ALL;
            int mask = 0;
            for (int lower = 0; lower < pieces; lower++) {
                if (book.get(Book.BELOW + piece) + book.get(Book.ABOVE + lower) == MAX_SEAM) {
                    mask |= 1 << lower;
                }
            }
            if (piece >= 0 && piece < MAX_PIECES) {
                fitting[piece] = mask;
                earliest[piece] = receipts > 0 ? book.get(Book.TIME + slot) : Book.AFTER_ALL;
                int half = 1 << piece;
                for (int set = 0; set < half; set++) {
                    latest[half + set] = Math.max(latest[set], lastTime);
                }
            }
        }

        private void searchFrom(int start) {
            int sets = 1 << pieces;
            Arrays.fill(ends, 0);
            if (start < 0 || start >= pieces || sets > SETS) {
                return;
            }
            ends[1 << start] = 1 << start;
            // A row that grows gets a greater set, so each set is whole when its turn comes.
            for (int set = 1 << start; set < sets; set++) {
                if (ends[set] != 0) {
                    take(start, set);
                    grow(set);
                }
            }
        }

        private void take(int start, int set) {
            int size = Integer.bitCount(set);
            int lowest = lowestOf(ends[set]);
            if (size > length || size == length && start == first && lowest < last) {
                length = size;
                first = start;
                last = lowest;
            }
        }

        private void grow(int set) {
            int below = 0;
            for (int piece = 0; piece < pieces; piece++) {
                if ((ends[set] & (1 << piece)) != 0) {
                    below |= fitting[piece];
                }
            }
            below &= ~set;
            for (int piece = 0; piece < pieces; piece++) {
                if ((below & (1 << piece)) != 0 && latest[set] <= earliest[piece]) {
                    ends[set | (1 << piece)] |= 1 << piece;
                }
            }
        }
    }

    /** The characters that were appended. */
    private static final class Buffer {
        private final int[] codes = new int[MAX_BUFFER];
        private int length = 0;

        int length() {
            return length;
        }

        void clear() {
            length = 0;
        }

        void add(int code) {
            if (length >= 0 && length < MAX_BUFFER) {
                codes[length] = code;
                length++;
            }
        }

        int codeAt(int index) {
            return index >= 0 && index < MAX_BUFFER ? codes[index] : 0;
        }
    }

    /** Reads receipts as a text, a character at a time, and holds what it has read of the one it stands in. */
    private static final class Reader {
        private static final int IN_TIME = 0;
        private static final int IN_SHOP = 1;
        private static final int IN_ITEM = 2;
        private static final int IN_TOTAL = 3;

        private int phase = IN_TIME;
        private int number = 0;
        private int digits = 0;
        private int time = 0;
        private int shop = 0;
        private int items = 0;
        private final int[] item = new int[MAX_ITEMS];

        void restart() {
            items = 0;
            begin(IN_TIME);
        }

        private void begin(int next) {
            phase = next;
            number = 0;
            digits = 0;
        }

        int time() {
            return time;
        }

        int shop() {
            return shop;
        }

        int items() {
            return items;
        }

        int itemAt(int index) {
            return index >= 0 && index < MAX_ITEMS ? item[index] : 0;
        }

        int printed() {
            return number;
        }

        boolean isAtEndOfReceipt() {
            return phase == IN_TOTAL && digits > 0;
        }

        /** Reads a character; returns false, and stays where it is, if that is a syntax error. */
        boolean accept(int code) {
            if (code >= '0' && code <= '9') {
                return acceptDigit(code - '0');
            }
            return digits > 0 && acceptMark(code);
        }

        private boolean acceptDigit(int digit) {
            boolean allowed;
            if (digits == 0) {
                allowed = digit > 0 || phase != IN_ITEM;
            } else {
                allowed = number > 0 && digits < mostDigits();
            }
            if (allowed) {
                number = number * 10 + digit;
                digits++;
            }
            return allowed;
        }

        private int mostDigits() {
            switch (phase) {
                case IN_SHOP:
                    return 1;
                case IN_ITEM:
                    return 3;
                default:
                    return 4;
            }
        }

        private boolean acceptMark(int code) {
            switch (phase) {
                case IN_TIME:
                    return code == '@' && endTime();
                case IN_SHOP:
                    return code == ':' && endShop();
                case IN_ITEM:
                    return code == '=' && endItem(IN_TOTAL)
                            || code == '+' && items + 1 < MAX_ITEMS && endItem(IN_ITEM);
                default:
                    if (code != ';') {
                        return false;
                    }
                    restart();
                    return true;
            }
        }

        private boolean endTime() {
            time = number;
            begin(IN_SHOP);
            return true;
        }

        private boolean endShop() {
            shop = number;
            begin(IN_ITEM);
            return true;
        }

        private boolean endItem(int next) {
            if (items >= 0 && items < MAX_ITEMS) {
                item[items] = number;
                items++;
            }
            begin(next);
            return true;
        }
    }
}
