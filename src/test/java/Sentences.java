import java.io.IOException;
import java.nio.file.Files;
import java.nio.file.Path;
import java.util.Arrays;
import java.util.function.Predicate;
import java.util.function.Supplier;
import java.util.function.ToIntFunction;

/** For tests that go through the document sentence by sentence: which one is tested, and what is due by it. */
class Sentences {
    static final int NONE = DevilsFount.NONE;
    static final int MIN = Integer.MIN_VALUE;
    static final int MAX = Integer.MAX_VALUE;

    private static final Path DOCUMENT = Path.of("..", "shared", "DOC.md");
    private static final String DOCUMENT_TEXT = document();

    private static String words = "";
    private static int sentences;
    private static int answers;
    private static int answersBefore;
    private static int wrong;

    private static String document() {
        try {
            return Files.exists(DOCUMENT) ? plain(Files.readString(DOCUMENT)) : null;
        } catch (IOException e) {
            throw new IllegalStateException(e);
        }
    }

    private static String plain(String text) {
        return text.replaceAll("\\s+", " ");
    }

    /** Begins the test of a sentence, told in the document's own words. */
    static void sentence(String itsWords) {
        endSentence();
        words = itsWords;
        sentences++;
        if (DOCUMENT_TEXT != null && !DOCUMENT_TEXT.contains(plain(words))) {
            fail("the document does not say so");
        }
    }

    private static void endSentence() {
        if (!words.isEmpty() && answers == answersBefore) {
            fail("nothing is tested");
        }
        answersBefore = answers;
        words = "";
    }

    private static void fail(String told) {
        wrong++;
        System.out.println("\"" + words + "\": " + told);
    }

    static void due(String call, int got, int due) {
        answers++;
        if (got != due) {
            fail(call + " answered " + got + ", due is " + due);
        }
    }

    static void due(String call, boolean got, boolean due) {
        due(call, got ? 1 : 0, due ? 1 : 0);
    }

    static void due(String call, int[] got, int... due) {
        answers++;
        if (!Arrays.equals(got, due)) {
            fail(call + " answered " + Arrays.toString(got) + ", due is " + Arrays.toString(due));
        }
    }

    /** The end of a test: how it went. */
    static void tellAll() {
        endSentence();
        System.out.println(sentences + " sentences, " + answers + " answers, " + wrong + " wrong");
        if (wrong != 0) {
            System.exit(1);
        }
    }

    // ---- what is told to a fount

    /** A new object with SORTS of the first letters. */
    static DevilsFount fount(int... sorts) {
        DevilsFount x = new DevilsFount();
        for (int l = 0; l < sorts.length; l++) {
            x.set(0, l, sorts[l]);
        }
        return x;
    }

    /** Puts a text on the TAPE that was empty. */
    static void feed(DevilsFount x, String text) {
        for (int from = 0; from < text.length(); from += 20) {
            int[] five = new int[5];
            for (int i = 0; i < 20; i++) {
                int c = from + i < text.length() ? text.charAt(from + i) : ' ';
                five[i / 4] |= c << 24 - i % 4 * 8;
            }
            x.feed(five[0], five[1], five[2], five[3], five[4]);
        }
        x.end(text.length());
    }

    /** Tells TEXT k: its lines, or NONE. */
    static int tell(DevilsFount x, int k, String text) {
        feed(x, text);
        return x.text(k);
    }

    static void law(DevilsFount x, String text) {
        mustTell(x, 0, text);
    }

    static void jobs(DevilsFount x, String text) {
        mustTell(x, 1, text);
    }

    static void book(DevilsFount x, String text) {
        mustTell(x, 2, text);
    }

    static void changes(DevilsFount x, String text) {
        mustTell(x, 3, text);
    }

    private static void mustTell(DevilsFount x, int k, String text) {
        if (tell(x, k, text) == NONE) {
            fail("no text: " + text + " (" + x.fault(0) + " at " + x.fault(1) + ")");
        }
    }

    static void row(DevilsFount x, String digits) {
        x.letter(NONE);
        for (char c : digits.toCharArray()) {
            x.letter(c - '0');
        }
    }

    static DevilsFount withRow(String digits) {
        DevilsFount x = new DevilsFount();
        row(x, digits);
        return x;
    }

    /** TEXT k is right, and has so many lines. */
    static void right(int k, String text, int lines) {
        DevilsFount x = new DevilsFount();
        due("text(" + k + ") of " + text, tell(x, k, text), lines);
        due("fault() of " + text, new int[] {x.fault(0), x.fault(1)}, 0, NONE);
    }

    /** TEXT k has a FAULT of a kind at a place. */
    static void faulty(int k, String text, int kind, int place) {
        DevilsFount x = new DevilsFount();
        due("text(" + k + ") of " + text, tell(x, k, text), NONE);
        due("fault() of " + text, new int[] {x.fault(0), x.fault(1)}, kind, place);
    }

    /** What sets tells of the job a, of whose LETTER one SORT lies in the boxes. */
    static int sets(String law) {
        DevilsFount x = fount(1);
        jobs(x, "from 0 a;");
        law(x, law);
        return x.job(0, 3);
    }

    /** Whether a condition is so. */
    static boolean so(String condition) {
        return sets("sets 2 when " + condition + "; sets 1;") == 2;
    }

    // ---- draws

    static int next(int state) {
        return 1664525 * state + 1013904223;
    }

    /** The least STATE from 0 on whose next DRAW of 1000 is so. */
    static int before(int draw) {
        int state = 0;
        while ((next(state) >>> 8) % 1000 != draw) {
            state++;
        }
        return state;
    }

    // ---- all that can be asked

    static int[] line(DevilsFount x, int i) {
        return new int[] {x.tray(i, 0), x.tray(i, 1), x.tray(i, 2), x.tray(i, 3)};
    }

    /** The last line of THE TRAY. */
    static int[] lastLine(DevilsFount x) {
        return line(x, x.look(9) - 1);
    }

    static int[] sorts(DevilsFount x) {
        int[] sorts = new int[10];
        for (int l = 0; l < 10; l++) {
            sorts[l] = x.of(l, 0);
        }
        return sorts;
    }

    /** All that stands in the shop and on the book, without what is told for thought. */
    static int[] shop(DevilsFount x) {
        Asked asked = new Asked();
        for (int what = 0; what < 14; what++) {
            asked.add(x.look(what));
        }
        for (int l = 0; l < 10; l++) {
            for (int what = 0; what < 5; what++) {
                asked.add(x.of(l, what));
            }
        }
        for (int i = 0; i < x.look(1); i++) {
            for (int what = 0; what < 6; what++) {
                asked.add(x.job(i, what));
            }
            for (int what = 10; what < 18; what++) {
                asked.add(x.job(i, what));
            }
        }
        for (int i = 0; i < x.look(3); i++) {
            for (int what = 0; what < 3; what++) {
                asked.add(x.devils(i, what));
            }
            for (int what = 10; what < 18; what++) {
                asked.add(x.devils(i, what));
            }
        }
        for (int i = 0; i < x.look(9); i++) {
            for (int n : line(x, i)) {
                asked.add(n);
            }
        }
        for (int what = 0; what < 4; what++) {
            asked.add(x.goes(3, what));
        }
        asked.add(x.out());
        return asked.all();
    }

    /** All that is told for thought, as far as answers tell it. */
    static int[] thought(DevilsFount x) {
        Asked asked = new Asked();
        for (int i = 0; i < 12; i++) {
            asked.add(x.columns(10, i));
        }
        for (int k = 100; k <= 112; k++) {
            asked.add(x.values(k));
        }
        asked.add(x.square());
        asked.add(x.pattern());
        asked.add(x.game(1));
        return asked.all();
    }

    /** Both, for at most some 300 calls: an object is asked so but once. */
    static int[] all(DevilsFount x) {
        int[] shop = shop(x);
        int[] thought = thought(x);
        int[] all = Arrays.copyOf(shop, shop.length + thought.length);
        System.arraycopy(thought, 0, all, shop.length, thought.length);
        return all;
    }

    /** A refused call on an object made so answers so and leaves all as it was. */
    static void refused(Supplier<DevilsFount> made, String call, ToIntFunction<DevilsFount> called, int answer) {
        DevilsFount x = made.get();
        due(call, called.applyAsInt(x), answer);
        due("all, after " + call, all(x), all(made.get()));
    }

    /** One that answers with false. */
    static void refusedFalse(Supplier<DevilsFount> made, String call, Predicate<DevilsFount> called) {
        refused(made, call, x -> called.test(x) ? 1 : 0, 0);
    }

    private static final class Asked {
        private int[] numbers = new int[64];
        private int count;

        void add(int n) {
            if (count == numbers.length) {
                numbers = Arrays.copyOf(numbers, 2 * count);
            }
            numbers[count] = n;
            count++;
        }

        int[] all() {
            return Arrays.copyOf(numbers, count);
        }
    }

    /** A shop in the midst of things: texts of each kind, days gone by, deeds that can be undone, thoughts. */
    static DevilsFount busy() {
        DevilsFount x = fount(9, 8, 7, 99, 0, 3);
        law(x, "sets 700 when waits > 1; sets 400; breaks 1 when length > 1; dares 600 when rest > 3;");
        jobs(x, "from 0 ab; from 1 cad; from 2 aabbcc; from 900 d; from 0 ee;");
        book(x, "word ab; word dcb; word ddddd; word e;");
        changes(x, "on 0 cast a 2; on 1 melt d 2; on 2 dare 8; on 3 cast d 50;");
        row(x, "21021");
        x.sign(2);
        x.sign(11);
        for (int i = 0; i < 5; i++) {
            x.place(i, i, i % 3);
            x.place(4 - i, i, 2 - i % 3);
        }
        x.value(1, 5);
        x.value(2, 20);
        x.state(2026);
        x.days(3);
        x.act(0, 5);
        return x;
    }
}
