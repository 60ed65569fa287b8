import java.util.ArrayList;
import java.util.Arrays;
import java.util.List;
import java.util.Random;
import java.util.regex.Matcher;
import java.util.regex.Pattern;

/**
 * Runs of calls, the same at each run of the test, on a diary and on a model of it that is written
 * after the document in another way: with lists, a regular expression and a search of all rows.
 */
public final class ModelTest {
    private static final int RUNS = 1500;
    private static final int CALLS = 500;

    private static int failed = 0;

    private ModelTest() {
    }

    private static final class Slip {
        int time;
        int shop;
        int[] items;
        int printed;

        int sum() {
            return Arrays.stream(items).sum();
        }

        int kind() {
            if (printed == sum()) {
                return 0;
            }
            String digits = Integer.toString(sum());
            for (int index = 0; index + 1 < digits.length(); index++) {
                String turned = digits.substring(0, index) + digits.charAt(index + 1) + digits.charAt(index)
                        + digits.substring(index + 2);
                if (turned.equals(Integer.toString(printed))) {
                    return 1;
                }
            }
            if (Arrays.stream(items).anyMatch(item -> sum() - item == printed)) {
                return 2;
            }
            return Arrays.stream(items).anyMatch(item -> sum() + item == printed) ? 3 : 4;
        }

        Slip copy() {
            Slip copy = new Slip();
            copy.time = time;
            copy.shop = shop;
            copy.items = items.clone();
            copy.printed = printed;
            return copy;
        }
    }

    private static final class Torn {
        int above;
        int below;
        final List<Slip> slips = new ArrayList<>();

        Torn(int above, int below) {
            this.above = above;
            this.below = below;
        }
    }

    /** Pieces, and rolls as lists of the numbers of pieces. */
    private static final class State {
        final List<Torn> torn = new ArrayList<>();
        final List<List<Integer>> rolls = new ArrayList<>();

        State copy() {
            State copy = new State();
            for (Torn one : torn) {
                Torn other = new Torn(one.above, one.below);
                one.slips.forEach(slip -> other.slips.add(slip.copy()));
                copy.torn.add(other);
            }
            rolls.forEach(roll -> copy.rolls.add(new ArrayList<>(roll)));
            return copy;
        }

        List<Integer> rollOf(int piece) {
            return rolls.stream().filter(roll -> roll.contains(piece)).findFirst().get();
        }

        List<Slip> slipsOf(List<Integer> roll) {
            List<Slip> slips = new ArrayList<>();
            roll.forEach(piece -> slips.addAll(torn.get(piece).slips));
            return slips;
        }

        int fit(int upper, int lower) {
            List<Integer> over = rollOf(upper);
            List<Integer> under = rollOf(lower);
            if (torn.get(upper).below + torn.get(lower).above != 99) {
                return 1;
            }
            if (over.indexOf(upper) != over.size() - 1) {
                return 2;
            }
            if (under.indexOf(lower) != 0) {
                return 3;
            }
            if (over == under) {
                return 4;
            }
            List<Slip> ahead = slipsOf(over);
            List<Slip> behind = slipsOf(under);
            boolean back = !ahead.isEmpty() && !behind.isEmpty()
                    && ahead.get(ahead.size() - 1).time > behind.get(0).time;
            return back ? 5 : 0;
        }

        int link(int upper, int lower) {
            List<Integer> under = rollOf(lower);
            rolls.remove(under);
            rollOf(upper).addAll(under);
            return rollOf(upper).size();
        }

        int neighbour(int piece, int step) {
            List<Integer> roll = rollOf(piece);
            int index = roll.indexOf(piece) + step;
            return index >= 0 && index < roll.size() ? roll.get(index) : -1;
        }
    }

    private static final class Model {
        private static final String NUMBER = "(?:0|[1-9][0-9]{0,3})";
        private static final String ITEM = "[1-9][0-9]{0,2}";
        private static final String RECEIPT = NUMBER + "@[0-9]:" + ITEM + "(?:\\+" + ITEM + "){0,3}=" + NUMBER;
        private static final Pattern TEXT = Pattern.compile(RECEIPT + "(?:;" + RECEIPT + ")*");

        State state = new State();
        final List<State> saved = new ArrayList<>();
        String buffer = "";

        private void save() {
            saved.add(state.copy());
            if (saved.size() > 6) {
                saved.remove(0);
            }
        }

        private void needPiece(int piece) {
            if (piece < 0 || piece >= state.torn.size()) {
                throw new IndexOutOfBoundsException();
            }
        }

        private Slip needSlip(int piece, int number) {
            needPiece(piece);
            if (number < 0 || number >= state.torn.get(piece).slips.size()) {
                throw new IndexOutOfBoundsException();
            }
            return state.torn.get(piece).slips.get(number);
        }

        private static void need(boolean well) {
            if (!well) {
                throw new IllegalArgumentException();
            }
        }

        private static void needState(boolean well) {
            if (!well) {
                throw new IllegalStateException();
            }
        }

        int piece(int above, int below) {
            need(above >= 0 && above <= 99 && below >= 0 && below <= 99);
            needState(state.torn.size() < 10);
            save();
            int number = state.torn.size();
            state.torn.add(new Torn(above, below));
            state.rolls.add(new ArrayList<>(List.of(number)));
            return number;
        }

        int paste(int piece) {
            needPiece(piece);
            need(TEXT.matcher(buffer).matches());
            save();
            int added = 0;
            for (String text : buffer.split(";")) {
                if (!add(piece, text)) {
                    break;
                }
                added++;
            }
            buffer = "";
            return added;
        }

        private boolean add(int piece, String text) {
            String[] fields = text.split("[@:=]");
            Slip slip = new Slip();
            slip.time = Integer.parseInt(fields[0]);
            slip.shop = Integer.parseInt(fields[1]);
            slip.items = Arrays.stream(fields[2].split("\\+")).mapToInt(Integer::parseInt).toArray();
            slip.printed = Integer.parseInt(fields[3]);
            List<Slip> own = state.torn.get(piece).slips;
            if (own.size() == 6) {
                return false;
            }
            List<Integer> roll = state.rollOf(piece);
            int place = roll.indexOf(piece);
            boolean early = state.slipsOf(roll.subList(0, place + 1)).stream().anyMatch(o -> slip.time < o.time);
            boolean late = state.slipsOf(roll.subList(place + 1, roll.size())).stream()
                    .anyMatch(o -> slip.time > o.time);
            return !early && !late && own.add(slip);
        }

        int cut(int piece) {
            needPiece(piece);
            List<Slip> own = state.torn.get(piece).slips;
            needState(!own.isEmpty());
            save();
            return state.torn.get(piece).slips.remove(own.size() - 1).sum();
        }

        int correct(int piece, int number) {
            Slip slip = needSlip(piece, number);
            save();
            int before = slip.printed;
            slip.printed = slip.sum();
            return before;
        }

        int join(int upper, int lower) {
            needPiece(upper);
            needPiece(lower);
            needState(state.fit(upper, lower) == 0);
            save();
            return state.link(upper, lower);
        }

        int part(int piece) {
            needPiece(piece);
            int lower = state.neighbour(piece, 1);
            needState(lower != -1);
            save();
            List<Integer> roll = state.rollOf(piece);
            int place = roll.indexOf(lower);
            state.rolls.add(new ArrayList<>(roll.subList(place, roll.size())));
            roll.subList(place, roll.size()).clear();
            return lower;
        }

        int joinClear() {
            save();
            int joins = 0;
            boolean again = true;
            while (again) {
                again = false;
                for (int upper = 0; upper < state.torn.size() && !again; upper++) {
                    List<Integer> lowers = fitting(upper, true);
                    if (lowers.size() == 1 && fitting(lowers.get(0), false).size() == 1) {
                        state.link(upper, lowers.get(0));
                        joins++;
                        again = true;
                    }
                }
            }
            return joins;
        }

        private List<Integer> fitting(int piece, boolean below) {
            List<Integer> found = new ArrayList<>();
            for (int other = 0; other < state.torn.size(); other++) {
                if ((below ? state.fit(piece, other) : state.fit(other, piece)) == 0) {
                    found.add(other);
                }
            }
            return found;
        }

        int append(int code) {
            need(code >= 33 && code <= 126);
            needState(buffer.length() < 60);
            buffer += (char) code;
            return buffer.length();
        }

        int clearBuffer() {
            int length = buffer.length();
            buffer = "";
            return length;
        }

        int firstError() {
            for (int end = 1; end <= buffer.length(); end++) {
                Matcher matcher = TEXT.matcher(buffer.substring(0, end));
                if (!matcher.matches() && !matcher.hitEnd()) {
                    return end - 1;
                }
            }
            return buffer.length();
        }

        int undo() {
            needState(!saved.isEmpty());
            state = saved.remove(saved.size() - 1);
            return saved.size();
        }

        int pieceOf(int piece, int what) {
            needPiece(piece);
            need(what >= 0 && what <= 7);
            Torn torn = state.torn.get(piece);
            int mask = 0;
            for (int lower : fitting(piece, true)) {
                mask += 1 << lower;
            }
            int[] all = {torn.above, torn.below, torn.slips.size(), state.neighbour(piece, -1),
                state.neighbour(piece, 1), state.rollOf(piece).get(0), mask,
                torn.slips.stream().mapToInt(Slip::sum).sum()};
            return all[what];
        }

        int receipt(int piece, int number, int what) {
            Slip slip = needSlip(piece, number);
            need(what >= 0 && what <= 8);
            int[] all = {slip.time, slip.shop, slip.items.length, slip.sum(), slip.printed, slip.kind(), page(slip),
                hour(slip), alike(piece, slip)};
            return all[what];
        }

        private static int page(Slip slip) {
            return Math.floorDiv(slip.time + 720, 1440);
        }

        private static int hour(Slip slip) {
            return slip.time / 60 % 24;
        }

        private int alike(int piece, Slip slip) {
            int alike = 0;
            for (int other = 0; other < state.torn.size(); other++) {
                for (Slip one : state.torn.get(other).slips) {
                    if (other != piece && one.time == slip.time && one.shop == slip.shop && one.sum() == slip.sum()) {
                        alike++;
                    }
                }
            }
            return alike;
        }

        /** Of all receipts: piece, number. */
        private List<int[]> places() {
            List<int[]> places = new ArrayList<>();
            for (int piece = 0; piece < state.torn.size(); piece++) {
                for (int number = 0; number < state.torn.get(piece).slips.size(); number++) {
                    places.add(new int[] {piece, number});
                }
            }
            return places;
        }

        private Slip slipAt(int[] place) {
            return state.torn.get(place[0]).slips.get(place[1]);
        }

        private List<int[]> placesOf(int page) {
            List<int[]> places = places();
            places.removeIf(place -> page(slipAt(place)) != page);
            places.sort((one, other) -> slipAt(one).time != slipAt(other).time
                    ? slipAt(one).time - slipAt(other).time
                    : one[0] != other[0] ? one[0] - other[0] : one[1] - other[1]);
            return places;
        }

        private List<Slip> slips() {
            List<Slip> slips = new ArrayList<>();
            places().forEach(place -> slips.add(slipAt(place)));
            return slips;
        }

        int page(int page, int what) {
            need(page >= 0 && page <= 7 && what >= 0 && what <= 4);
            int[] all = new int[5];
            for (int[] place : placesOf(page)) {
                Slip slip = slipAt(place);
                all[0]++;
                all[1] += slip.sum();
                all[2] += slip.printed;
                all[3] += slip.kind() == 0 ? 0 : 1;
                all[4] |= 1 << slip.shop;
            }
            return all[what];
        }

        int line(int page, int line, int what) {
            need(page >= 0 && page <= 7 && line >= 0 && what >= 0 && what <= 2);
            List<int[]> places = placesOf(page);
            if (line >= places.size()) {
                return -1;
            }
            int[] place = places.get(line);
            return what == 2 ? slipAt(place).sum() : place[what];
        }

        int sum(int shop, int hour) {
            need(shop >= -1 && shop <= 9 && hour >= -1 && hour <= 23);
            return slips().stream().filter(slip -> shop == -1 || slip.shop == shop)
                    .filter(slip -> hour == -1 || hour(slip) == hour).mapToInt(Slip::sum).sum();
        }

        int count(int what) {
            need(what >= 0 && what <= 12);
            int pieces = state.torn.size();
            if (what >= 4 && what <= 8) {
                return (int) slips().stream().filter(slip -> slip.kind() == what - 4).count();
            }
            switch (what) {
                case 0:
                    return pieces;
                case 1:
                    return state.rolls.size();
                case 2:
                    return slips().size();
                case 3:
                    return slips().stream().mapToInt(Slip::sum).sum();
                case 9:
                    return state.rolls.stream().mapToInt(roll -> roll.size() - 1).sum();
                case 10:
                    return pairs();
                case 11:
                    return (int) slips().stream().map(Model::page).distinct().count();
                default:
                    return saved.size();
            }
        }

        private int pairs() {
            int pairs = 0;
            List<int[]> places = places();
            for (int first = 0; first < places.size(); first++) {
                for (int second = first + 1; second < places.size(); second++) {
                    Slip one = slipAt(places.get(first));
                    Slip other = slipAt(places.get(second));
                    if (places.get(first)[0] != places.get(second)[0] && one.time == other.time
                            && one.shop == other.shop && one.sum() == other.sum()) {
                        pairs++;
                    }
                }
            }
            return pairs;
        }

        int fits(int upper, int lower) {
            needPiece(upper);
            needPiece(lower);
            return state.fit(upper, lower);
        }

        private int[] best;

        int longest(int what) {
            need(what >= 0 && what <= 2);
            return longest()[what];
        }

        private int[] longest() {
            best = new int[] {0, -1, -1};
            State apart = state.copy();
            apart.rolls.clear();
            for (int piece = 0; piece < apart.torn.size(); piece++) {
                apart.rolls.add(new ArrayList<>(List.of(piece)));
            }
            for (int piece = 0; piece < apart.torn.size(); piece++) {
                extend(apart, piece, piece, 1);
            }
            return best;
        }

        /** The state holds the row as a roll; all that could come below it is tried. */
        private void extend(State apart, int first, int last, int length) {
            if (length > best[0] || length == best[0] && (first < best[1] || first == best[1] && last < best[2])) {
                best = new int[] {length, first, last};
            }
            for (int lower = 0; lower < apart.torn.size(); lower++) {
                if (apart.fit(last, lower) == 0) {
                    apart.link(last, lower);
                    extend(apart, first, lower, length + 1);
                    apart.rollOf(first).remove(Integer.valueOf(lower));
                    apart.rolls.add(new ArrayList<>(List.of(lower)));
                }
            }
        }

        int hidden() {
            return slips().stream().mapToInt(slip -> Math.abs(slip.sum() - slip.printed)).sum();
        }

        int suspect() {
            int[][] shops = new int[10][2];
            for (Slip slip : slips()) {
                shops[slip.shop][0] += slip.kind() == 0 ? 0 : 1;
                shops[slip.shop][1] += Math.abs(slip.sum() - slip.printed);
            }
            int found = -1;
            for (int shop = 9; shop >= 0; shop--) {
                boolean atLeast = found == -1 || shops[shop][0] > shops[found][0]
                        || shops[shop][0] == shops[found][0] && shops[shop][1] >= shops[found][1];
                if (shops[shop][0] > 0 && atLeast) {
                    found = shop;
                }
            }
            return found;
        }

        double rightShare() {
            return slips().isEmpty() ? 1.0 : (double) count(4) / count(2);
        }

        long digest() {
            List<Long> values = new ArrayList<>();
            for (int what = 0; what < 13; what++) {
                values.add((long) count(what));
            }
            for (int piece = 0; piece < count(0); piece++) {
                for (int what = 0; what < 8; what++) {
                    values.add((long) pieceOf(piece, what));
                }
                for (int number = 0; number < pieceOf(piece, 2); number++) {
                    for (int what = 0; what < 9; what++) {
                        values.add((long) receipt(piece, number, what));
                    }
                }
            }
            for (int pair = 0; pair < count(0) * count(0); pair++) {
                values.add((long) state.fit(pair / count(0), pair % count(0)));
            }
            for (int page = 0; page < 8; page++) {
                for (int what = 0; what < 5; what++) {
                    values.add((long) page(page, what));
                }
                for (int[] place : placesOf(page)) {
                    values.add((long) place[0]);
                    values.add((long) place[1]);
                }
            }
            for (int shop = -1; shop < 10; shop++) {
                values.add((long) sum(shop, -1));
            }
            for (int hour = 0; hour < 24; hour++) {
                values.add((long) sum(-1, hour));
            }
            for (int number : longest()) {
                values.add((long) number);
            }
            values.add((long) hidden());
            values.add((long) suspect());
            values.add(Double.doubleToLongBits(rightShare()));
            values.add((long) buffer.length());
            buffer.chars().forEach(code -> values.add((long) code));
            long hash = 2897;
            for (long value : values) {
                hash = 31 * hash + value;
            }
            return hash;
        }
    }

    /** A call on both, told as text: its name, and what it answered or threw. */
    private interface Call {
        long answer();
    }

    private static String told(Call call) {
        try {
            return Long.toString(call.answer());
        } catch (RuntimeException e) {
            return e.getClass().getSimpleName();
        }
    }

    private static final class Run {
        final Random random;
        final NightDiary diary = new NightDiary();
        final Model model = new Model();
        final List<String> trail = new ArrayList<>();
        final boolean alike;
        final int[] seams;
        final int mostTime;
        int calls = 0;
        boolean well = true;

        Run(int seed) {
            random = new Random(seed);
            // The model tries all rows, so pieces that all fit one another are kept few.
            alike = seed % 3 == 0;
            seams = alike ? new int[] {49, 50} : new int[] {48, 49, 50, 51, 10, 89, 0, 99};
            mostTime = new int[] {4, 40, 3000, 10000}[seed / 3 % 4];
        }

        void same(String name, Call one, Call other) {
            calls++;
            String got = told(one);
            String want = told(other);
            trail.add(name + " -> " + got);
            if (well && !got.equals(want)) {
                well = false;
                failed++;
                System.out.println("a run that ends with " + name + ", due is " + want + ":");
                trail.forEach(row -> System.out.println("    " + row));
            }
        }

        int any(int low, int high) {
            return low + random.nextInt(high - low + 1);
        }

        /** A piece, mostly one that is there. */
        int anyPiece() {
            int pieces = model.state.torn.size();
            return pieces == 0 || any(0, 19) == 0 ? any(-1, 10) : any(0, pieces - 1);
        }

        int anyReceipt(int piece) {
            boolean there = piece >= 0 && piece < model.state.torn.size();
            int receipts = there ? model.state.torn.get(piece).slips.size() : 0;
            return receipts == 0 || any(0, 9) == 0 ? any(-1, 6) : any(0, receipts - 1);
        }

        int anySeam() {
            if (any(0, 39) == 0) {
                return any(-2, 101);
            }
            return seams[any(0, seams.length - 1)];
        }

        /** A text that tells one of the receipts again, with its sum in one item or two. */
        String again() {
            List<Slip> slips = model.slips();
            Slip slip = slips.get(any(0, slips.size() - 1));
            int sum = slip.sum();
            int half = sum / 2;
            String items = sum <= 999 ? Integer.toString(sum) : half <= 998 ? half + "+" + (sum - half) : "999+999";
            return slip.time + "@" + slip.shop + ":" + items + "=" + sum;
        }

        String anyReceiptText(int from) {
            if (any(0, 3) == 0 && !model.slips().isEmpty()) {
                return again();
            }
            StringBuilder text = new StringBuilder();
            int sum = 0;
            int last = 0;
            text.append(Math.min(9999, any(0, 3) == 0 ? any(0, mostTime - 1) : from + any(0, mostTime / 5)));
            text.append('@').append(any(0, 2) == 0 ? any(0, 9) : 3).append(':');
            int items = any(0, 2) == 0 ? any(1, 4) : any(1, 2);
            for (int item = 0; item < items; item++) {
                last = any(0, 1) == 0 ? any(1, 3) : any(1, any(0, 1) == 0 ? 99 : 999);
                sum += last;
                text.append(item == 0 ? "" : "+").append(last);
            }
            int[] totals = {sum, sum, sum - last, sum + last, turned(sum), any(0, 9999)};
            return text.append('=').append(totals[any(0, 5)]).toString();
        }

        int turned(int sum) {
            char[] digits = Integer.toString(sum).toCharArray();
            if (digits.length > 1) {
                int index = any(0, digits.length - 2);
                char digit = digits[index];
                digits[index] = digits[index + 1];
                digits[index + 1] = digit;
            }
            return Integer.parseInt(new String(digits));
        }

        void write(String text) {
            for (int index = 0; index < text.length(); index++) {
                int code = text.charAt(index);
                same("append(" + code + ")", () -> diary.append(code), () -> model.append(code));
            }
        }

        void anyText() {
            int piece = anyPiece();
            boolean there = piece >= 0 && piece < model.state.torn.size();
            List<Slip> roll = there ? model.state.slipsOf(model.state.rollOf(piece)) : List.of();
            int from = roll.isEmpty() ? any(0, mostTime - 1) : roll.get(any(0, roll.size() - 1)).time;
            StringBuilder text = new StringBuilder(anyReceiptText(from));
            while (any(0, 2) != 0 && text.length() < 50) {
                text.append(';').append(anyReceiptText(from));
            }
            if (any(0, 9) == 0) {
                String signs = "0123456789@:+=;!~";
                text.setCharAt(any(0, text.length() - 1), signs.charAt(any(0, signs.length() - 1)));
            }
            write(text.toString());
            same("firstError()", diary::firstError, model::firstError);
            same("paste(" + piece + ")", () -> diary.paste(piece), () -> model.paste(piece));
            if (any(0, 3) != 0) {
                same("clearBuffer()", diary::clearBuffer, model::clearBuffer);
            }
        }

        void change() {
            int piece = anyPiece();
            int other = anyPiece();
            int receipt = anyReceipt(piece);
            switch (any(0, 11)) {
                case 0:
                case 1:
                    int above = anySeam();
                    int below = anySeam();
                    if (!alike || model.state.torn.size() < 6) {
                        same("piece(" + above + ", " + below + ")", () -> diary.piece(above, below),
                                () -> model.piece(above, below));
                    }
                    break;
                case 2:
                case 3:
                case 4:
                    anyText();
                    break;
                case 5:
                    same("cut(" + piece + ")", () -> diary.cut(piece), () -> model.cut(piece));
                    break;
                case 6:
                    same("correct(" + piece + ", " + receipt + ")", () -> diary.correct(piece, receipt),
                            () -> model.correct(piece, receipt));
                    break;
                case 7:
                case 8:
                    same("join(" + piece + ", " + other + ")", () -> diary.join(piece, other),
                            () -> model.join(piece, other));
                    break;
                case 9:
                    same("part(" + piece + ")", () -> diary.part(piece), () -> model.part(piece));
                    break;
                case 10:
                    if (any(0, 1) == 0) {
                        same("joinClear()", diary::joinClear, model::joinClear);
                    }
                    break;
                default:
                    for (int times = any(1, 3); times > 0; times--) {
                        same("undo()", diary::undo, model::undo);
                    }
                    break;
            }
        }

        void look() {
            int piece = anyPiece();
            int other = anyPiece();
            int receipt = anyReceipt(piece);
            int what = any(-1, 13);
            int page = any(0, 9) == 0 ? any(-1, 8) : any(0, 7);
            int shop = any(-2, 10);
            int hour = any(-2, 24);
            same("pieceOf(" + piece + ", " + what + ")", () -> diary.pieceOf(piece, what),
                    () -> model.pieceOf(piece, what));
            same("receipt(" + piece + ", " + receipt + ", " + what + ")", () -> diary.receipt(piece, receipt, what),
                    () -> model.receipt(piece, receipt, what));
            same("page(" + page + ", " + what + ")", () -> diary.page(page, what), () -> model.page(page, what));
            same("line(" + page + ", " + receipt + ", 2)", () -> diary.line(page, receipt, 2),
                    () -> model.line(page, receipt, 2));
            same("sum(" + shop + ", " + hour + ")", () -> diary.sum(shop, hour), () -> model.sum(shop, hour));
            same("count(" + what + ")", () -> diary.count(what), () -> model.count(what));
            same("fits(" + piece + ", " + other + ")", () -> diary.fits(piece, other), () -> model.fits(piece, other));
            same("longest(" + what + ")", () -> diary.longest(what), () -> model.longest(what));
            same("hidden()", diary::hidden, model::hidden);
            same("suspect()", diary::suspect, model::suspect);
            same("rightShare()", () -> Double.doubleToLongBits(diary.rightShare()),
                    () -> Double.doubleToLongBits(model.rightShare()));
        }

        void go() {
            for (int piece = any(0, alike ? 5 : 8); piece > 0; piece--) {
                int above = anySeam();
                int below = anySeam();
                same("piece(" + above + ", " + below + ")", () -> diary.piece(above, below),
                        () -> model.piece(above, below));
            }
            while (well && calls < CALLS - 70) {
                change();
                same("digest()", diary::digest, model::digest);
                if (any(0, 5) == 0) {
                    look();
                }
            }
        }
    }

    public static void main(String[] args) {
        int passed = 0;
        for (int seed = 0; seed < RUNS && failed < 5; seed++) {
            Run run = new Run(seed);
            run.go();
            passed += run.well ? 1 : 0;
        }
        System.out.println(passed + " passed, " + failed + " failed");
        if (failed != 0) {
            System.exit(1);
        }
    }
}
