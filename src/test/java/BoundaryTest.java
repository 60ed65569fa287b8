import java.io.IOException;
import java.nio.charset.StandardCharsets;
import java.nio.file.Files;
import java.nio.file.Path;
import java.util.ArrayList;
import java.util.Arrays;
import java.util.List;
import java.util.Set;
import java.util.TreeSet;
import java.util.stream.Stream;

/**
 * The boundaries of the document, sentence by sentence: runs the calls in src/test/boundaries.
 *
 * <p>There, a row with "#" is a heading of the document, a row with ">" one of its sentences, and the rows
 * below that are calls on a new object, each with the answer that is due behind "->". Index, Argument and
 * State stand for the exceptions. "*" stands for 0, 1, 2 .., with as many answers as are due.
 *
 * <p>Of each look and each refused call it is also looked at whether anything else has changed by it: two
 * objects that had the same changes, one of them this call too, must tell the same to the last saved state.
 */
public final class BoundaryTest {
    private static final Path FOLDER = Path.of("src/test/boundaries");
    private static final int PROMISES = 24;
    private static final int MOST_CALLS = 512;
    private static final Set<String> LOOKS = Set.of("firstError", "pieceOf", "receipt", "page", "line", "sum",
            "count", "fits", "longest", "hidden", "suspect", "rightShare", "digest");
    private static final Set<String> REFUSALS = Set.of("Index", "Argument", "State");

    private static int passed = 0;
    private static int failed = 0;

    private BoundaryTest() {
    }

    public static void main(String[] args) throws IOException {
        List<Path> files;
        try (Stream<Path> all = Files.list(FOLDER)) {
            files = all.filter(file -> file.toString().endsWith(".txt")).sorted().toList();
        }
        Set<String> promises = new TreeSet<>();
        for (Path file : files) {
            runFile(file, promises);
        }
        due("promises with sentences", promises.size(), PROMISES);
        System.out.println(passed + " passed, " + failed + " failed");
        if (failed != 0) {
            System.exit(1);
        }
    }

    private static void runFile(Path file, Set<String> promises) throws IOException {
        String heading = "";
        Sentence sentence = null;
        int number = 0;
        for (String row : Files.readAllLines(file, StandardCharsets.US_ASCII)) {
            number++;
            String place = file.getFileName() + ":" + number;
            if (row.startsWith("#")) {
                heading = row.substring(1).strip();
            } else if (row.startsWith(">")) {
                sentence = new Sentence(heading, row.substring(1).strip());
                if (heading.startsWith("Promise ")) {
                    promises.add(heading.substring(0, heading.indexOf(':')));
                }
            } else if (!row.isBlank()) {
                sentence.run(place, row.strip());
            }
        }
    }

    private static void due(String what, Object got, Object want) {
        if (got.equals(want)) {
            passed++;
        } else {
            failed++;
            System.out.println(what + " answered " + got + ", due is " + want);
        }
    }

    /** An object, with its calls counted: what is answered past the document's number of calls is free. */
    private static final class Desk {
        private final NightDiary diary = new NightDiary();
        private int calls = 0;

        /** Makes a call of the face, or a row of them, and tells the answer of the last one. */
        String answer(String... words) {
            switch (words[0]) {
                case "times":
                    return repeated(numberOf(words[1]), Arrays.copyOfRange(words, 2, words.length));
                case "write":
                    return written(words[1]);
                case "add":
                    written(words[2]);
                    return answer("paste", words[1]);
                default:
                    calls++;
                    return told(words);
            }
        }

        private String repeated(int times, String[] words) {
            String last = "";
            for (int time = 0; time < times; time++) {
                last = answer(words);
            }
            return last;
        }

        private String written(String text) {
            String last = "";
            for (int index = 0; index < text.length(); index++) {
                last = answer("append", Integer.toString(text.charAt(index)));
            }
            return last;
        }

        private String told(String[] words) {
            try {
                return call(words);
            } catch (RuntimeException e) {
                return refusal(e.getClass().getSimpleName());
            }
        }

        /** A class below one of these would be the machine's own, and keeps its name. */
        private static String refusal(String exception) {
            switch (exception) {
                case "IndexOutOfBoundsException":
                    return "Index";
                case "IllegalArgumentException":
                    return "Argument";
                case "IllegalStateException":
                    return "State";
                default:
                    return exception;
            }
        }

        private String call(String[] words) {
            int[] n = new int[3];
            for (int index = 1; index < words.length; index++) {
                n[index - 1] = numberOf(words[index]);
            }
            switch (words[0]) {
                case "rightShare":
                    return Double.toString(diary.rightShare());
                case "digest":
                    return Long.toString(diary.digest());
                case "piece":
                    return Integer.toString(diary.piece(n[0], n[1]));
                case "correct":
                    return Integer.toString(diary.correct(n[0], n[1]));
                case "join":
                    return Integer.toString(diary.join(n[0], n[1]));
                case "pieceOf":
                    return Integer.toString(diary.pieceOf(n[0], n[1]));
                case "receipt":
                    return Integer.toString(diary.receipt(n[0], n[1], n[2]));
                case "page":
                    return Integer.toString(diary.page(n[0], n[1]));
                case "line":
                    return Integer.toString(diary.line(n[0], n[1], n[2]));
                case "sum":
                    return Integer.toString(diary.sum(n[0], n[1]));
                case "fits":
                    return Integer.toString(diary.fits(n[0], n[1]));
                default:
                    return Integer.toString(callOfOne(words[0], n[0]));
            }
        }

        private int callOfOne(String name, int number) {
            switch (name) {
                case "paste":
                    return diary.paste(number);
                case "cut":
                    return diary.cut(number);
                case "part":
                    return diary.part(number);
                case "joinClear":
                    return diary.joinClear();
                case "append":
                    return diary.append(number);
                case "clearBuffer":
                    return diary.clearBuffer();
                case "firstError":
                    return diary.firstError();
                case "undo":
                    return diary.undo();
                case "count":
                    return diary.count(number);
                case "longest":
                    return diary.longest(number);
                case "hidden":
                    return diary.hidden();
                case "suspect":
                    return diary.suspect();
                default:
                    throw new UnsupportedOperationException(name);
            }
        }

        /** Tells all that the object holds, down to its oldest saved state, with so many calls at most. */
        List<String> whole(int most) {
            List<String[]> looks = new ArrayList<>();
            looks.add(new String[] {"firstError"});
            looks.add(new String[] {"digest"});
            for (int saved = 0; saved < 7; saved++) {
                looks.add(new String[] {"undo"});
                looks.add(new String[] {"digest"});
            }
            // Whatever a call left behind unseen would show in the next ones.
            for (String next : new String[] {"clearBuffer", "piece 49 50", "write 7@7:7=8", "paste 0", "joinClear",
                "digest"}) {
                looks.add(next.split(" "));
            }
            List<String> told = new ArrayList<>();
            int end = calls + most;
            for (String[] look : looks) {
                int needed = look[0].equals("write") ? look[1].length() : 1;
                if (calls + needed <= end) {
                    told.add(String.join(" ", look) + " -> " + answer(look));
                }
            }
            return told;
        }
    }

    private static int numberOf(String word) {
        switch (word) {
            case "NONE":
                return NightDiary.NONE;
            case "MIN":
                return Integer.MIN_VALUE;
            case "MAX":
                return Integer.MAX_VALUE;
            default:
                return Integer.parseInt(word);
        }
    }

    /** A sentence of the document, with the calls of a new object. */
    private static final class Sentence {
        private final String name;
        private final Desk desk = new Desk();
        private final List<String[]> changes = new ArrayList<>();
        private final List<String> marks = new ArrayList<>();

        Sentence(String heading, String text) {
            name = heading + "\n  \"" + text + "\"\n  ";
        }

        void run(String place, String row) {
            String[] halves = row.split(" -> ", 2);
            String[] words = halves[0].split(" ");
            String[] answers = halves.length == 2 ? halves[1].split(" ") : new String[0];
            String what = name + place + ": " + halves[0];
            switch (words[0]) {
                case "mark":
                    marks.add(words[1] + " " + desk.answer("digest"));
                    break;
                case "same":
                    due(what, marks.contains(words[1] + " " + desk.answer("digest")), true);
                    break;
                case "next":
                    nextCharacters(what, words.length > 1 ? words[1] : "", answers[0]);
                    break;
                case "how":
                    how(what, words[1], numberOf(words[2]), answers[0]);
                    break;
                case "totals":
                    totals(what, words[1]);
                    break;
                default:
                    calls(what, words, answers);
                    break;
            }
            due(what + ", calls within the document's number", desk.calls <= MOST_CALLS, true);
        }

        private void calls(String what, String[] words, String[] answers) {
            if (words[words.length - 1].equals("*")) {
                for (int number = 0; number < answers.length; number++) {
                    String[] each = words.clone();
                    each[words.length - 1] = Integer.toString(number);
                    calls(what + " as " + number, each, new String[] {answers[number]});
                }
                return;
            }
            due(what + ", one answer is due at most", answers.length <= 1, true);
            String got = desk.answer(words);
            if (answers.length > 0) {
                due(what, got, dueText(words[0], answers[0]));
            } else {
                due(what + " answered " + got + ", a number", got.matches("-?[0-9]+"), true);
            }
            if (REFUSALS.contains(got) || LOOKS.contains(words[0])) {
                nothingElse(what, words);
            } else {
                changes.add(words);
            }
        }

        private static String dueText(String call, String answer) {
            if (REFUSALS.contains(answer) || call.equals("digest")) {
                return answer;
            }
            if (call.equals("rightShare")) {
                String[] parts = answer.split("/");
                return Double.toString((double) numberOf(parts[0]) / numberOf(parts[1]));
            }
            return Integer.toString(numberOf(answer));
        }

        private void nothingElse(String what, String[] words) {
            Desk one = new Desk();
            Desk other = new Desk();
            for (String[] change : changes) {
                one.answer(change);
                other.answer(change);
            }
            one.answer(words);
            int most = MOST_CALLS - one.calls;
            due(what + ", nothing else has changed by it: it", one.whole(most), other.whole(most));
        }
    }

    /** After a text that is begun well, these characters and no other ones go on well. */
    private static void nextCharacters(String what, String begun, String allowed) {
        for (int code = 33; code <= 126; code++) {
            Desk desk = new Desk();
            desk.answer("write", begun);
            desk.answer("append", Integer.toString(code));
            boolean well = allowed.indexOf(code) >= 0;
            String want = Integer.toString(well ? begun.length() + 1 : begun.length());
            due(what + " and " + (char) code + ", firstError", desk.answer("firstError"), want);
        }
    }

    private static void how(String what, String items, int printed, String kind) {
        Desk desk = new Desk();
        desk.answer("piece", "0", "0");
        due(what + ", paste", desk.answer("add", "0", "0@0:" + items + "=" + printed), "1");
        due(what, desk.answer("receipt", "0", "0", "5"), kind);
        for (int other = 0; other <= 4; other++) {
            String want = kind.equals(Integer.toString(other)) ? "1" : "0";
            due(what + ", count(" + (4 + other) + ")", desk.answer("count", Integer.toString(4 + other)), want);
        }
    }

    /** Each printed total there can be for these items, six of them on a piece. */
    private static void totals(String what, String items) {
        int[] amounts = Arrays.stream(items.split("\\+")).mapToInt(Integer::parseInt).toArray();
        Desk desk = new Desk();
        for (int printed = 0; printed <= 9999; printed++) {
            if (printed % 6 == 0) {
                desk = new Desk();
                desk.answer("piece", "0", "0");
            }
            String number = Integer.toString(printed % 6);
            desk.answer("add", "0", "0@0:" + items + "=" + printed);
            due(what + " as " + printed, desk.answer("receipt", "0", number, "5"),
                    Integer.toString(kindOf(amounts, printed)));
        }
    }

    private static int kindOf(int[] items, int printed) {
        int sum = Arrays.stream(items).sum();
        if (printed == sum) {
            return 0;
        }
        String text = Integer.toString(sum);
        for (int index = 0; index + 1 < text.length(); index++) {
            StringBuilder turned = new StringBuilder(text);
            turned.setCharAt(index, text.charAt(index + 1));
            turned.setCharAt(index + 1, text.charAt(index));
            // Digits are compared, so a zero that comes to the front makes it another number.
            if (turned.toString().equals(Integer.toString(printed))) {
                return 1;
            }
        }
        if (Arrays.stream(items).anyMatch(item -> sum - item == printed)) {
            return 2;
        }
        return Arrays.stream(items).anyMatch(item -> sum + item == printed) ? 3 : 4;
    }
}
