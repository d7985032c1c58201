import java.util.ArrayList;
import java.util.List;
import java.util.Random;

/** Random runs of calls: the program answers as the model of the document does. */
public final class ModelTest {
    private static final int RUNS = 1500;
    private static final int CALLS = 512;
    private static final int MOST_TOLD = 5;
    private static final int[] EDGES = {Integer.MIN_VALUE, -99999, 0, 4, 8, 10, 11, 12, 15, 17, 20, 60, 99, 101, 110, 112, 127,
        150, 255, 256, 400, 1000, 1023, 1201, 9999, 12345, 1048575, 1012345, 1543210, Integer.MAX_VALUE};

    private final Random random;
    private final Texts texts;
    private final DevilsFount x = new DevilsFount();
    private final Model m = new Model();
    private final List<String> calls = new ArrayList<>();
    private final int kindOfRun;
    private boolean wrong;

    private ModelTest(long seed) {
        random = new Random(seed);
        texts = new Texts(random);
        kindOfRun = (int) (seed % 5);
    }

    public static void main(String[] args) {
        int runs = args.length > 0 ? Integer.parseInt(args[0]) : RUNS;
        long from = args.length > 1 ? Long.parseLong(args[1]) : 0;
        int wrong = 0;
        for (long seed = from; seed < from + runs && wrong < MOST_TOLD; seed++) {
            ModelTest run = new ModelTest(seed);
            run.go();
            if (run.wrong) {
                wrong++;
                System.out.println("seed " + seed + ": " + String.join("\n  ", run.calls));
            }
        }
        System.out.println(wrong == 0 ? "the program answers as the model does" : wrong + " runs went wrong");
        if (wrong != 0) {
            System.exit(1);
        }
    }

    private void same(String call, int got, int due) {
        calls.add(call + " = " + got);
        if (got != due) {
            wrong = true;
            calls.add("  .. due was " + due);
        }
    }

    private void same(String call, boolean got, boolean due) {
        same(call, got ? 1 : 0, due ? 1 : 0);
    }

    private void go() {
        if (kindOfRun != 3) {
            int times = 2 + random.nextInt(9);
            for (int i = 0; i < times; i++) {
                int l = random.nextInt(10);
                int v = random.nextInt(kindOfRun == 0 ? 12 : 100);
                same("set(0," + l + "," + v + ")", x.set(0, l, v), m.set(0, l, v));
            }
            for (int k = 0; k < 4; k++) {
                tell(k);
            }
            int s = random.nextInt();
            same("state(" + s + ")", x.state(s), m.state(s));
        }
        while (kindOfRun == 4 && calls.size() < CALLS - 30 && !wrong) {
            wild();
        }
        while (calls.size() < CALLS - 30 && !wrong) {
            switch (kindOfRun == 3 ? 2 + random.nextInt(2) : random.nextInt(5)) {
                case 0:
                    change();
                    break;
                case 1:
                    ask();
                    break;
                case 2:
                    think();
                    break;
                case 3:
                    askThought();
                    break;
                default:
                    askAll();
                    break;
            }
        }
    }

    /** Mostly a number that can be, sometimes one at the edge or far beyond. */
    private int some(int least, int most) {
        switch (random.nextInt(20)) {
            case 0:
                return least - 1;
            case 1:
                return most + 1;
            case 2:
                return random.nextInt(4) == 0 ? random.nextInt() : random.nextBoolean()
                    ? Integer.MIN_VALUE : Integer.MAX_VALUE;
            default:
                return least + random.nextInt(most - least + 1);
        }
    }

    /** Any number: small ones, those at the edges of what is taken, and those far beyond. */
    private int any() {
        switch (random.nextInt(4)) {
            case 0:
                return random.nextInt(13);
            case 1:
                return EDGES[random.nextInt(EDGES.length)] + random.nextInt(3) - 1;
            case 2:
                return random.nextInt(5) - 2;
            default:
                return random.nextInt(6) == 0 ? random.nextInt() : random.nextInt(20);
        }
    }

    /** Any call with any numbers. */
    private void wild() {
        int a = any();
        int b = any();
        int c = any();
        String one = "(" + a + ")";
        String two = "(" + a + "," + b + ")";
        String three = "(" + a + "," + b + "," + c + ")";
        switch (random.nextInt(34)) {
            case 0: same("state" + one, x.state(a), m.state(a)); break;
            case 1: same("set" + three, x.set(a, b, c), m.set(a, b, c)); break;
            case 2: same("act" + two, x.act(a, b), m.act(a, b)); break;
            case 3: same("days" + one, x.days(a), m.days(a)); break;
            case 4: same("feed" + three, x.feed(a, b, c, a, b), m.feed(a, b, c, a, b)); break;
            case 5: same("end" + one, x.end(a), m.end(a)); break;
            case 6: same("text" + one, x.text(a), m.text(a)); break;
            case 7: same("fault" + one, x.fault(a), m.fault(a, true)); break;
            case 8: same("of" + two, x.of(a, b), m.of(a, b)); break;
            case 9: same("job" + two, x.job(a, b), m.job(a, b)); break;
            case 10: same("devils" + two, x.devils(a, b), m.devils(a, b)); break;
            case 11: same("tray" + two, x.tray(a, b), m.tray(a, b)); break;
            case 12: same("goes" + two, x.goes(a, b), m.goes(a, b)); break;
            case 13: same("out()", x.out(), m.out()); break;
            case 14: same("place" + three, x.place(a, b, c), m.place(a, b, c)); break;
            case 15: same("letter" + one, x.letter(a), m.letter(a)); break;
            case 16: same("square()", x.square(), m.square()); break;
            case 17: same("numbers()", x.numbers(), m.numbers()); break;
            case 18: same("sign" + one, x.sign(a), m.sign(a)); break;
            case 19: same("pattern()", x.pattern(), m.pattern()); break;
            case 20: same("turned" + one, x.turned(a), m.turned(a)); break;
            case 21: same("front" + one, x.front(a), m.front(a)); break;
            case 22: same("row" + one, x.row(a), m.row(a)); break;
            case 23: same("seven" + two, x.seven(a, b), m.seven(a, b)); break;
            case 24: same("over" + two, x.over(a, b), m.over(a, b)); break;
            case 25: same("ring" + three, x.ring(a, b, c), m.ring(a, b, c)); break;
            case 26: same("columns" + two, x.columns(a, b), m.columns(a, b)); break;
            case 27: same("value" + two, x.value(a, b), m.value(a, b)); break;
            case 28: same("values" + one, x.values(a), m.values(a)); break;
            case 29: same("game" + one, x.game(a), m.game(a)); break;
            case 30: same("undo()", x.undo(), m.undo()); break;
            case 31: same("image(" + (a % 2 == 0) + ")", x.image(a % 2 == 0), m.image(a % 2 == 0)); break;
            case 32: same("look" + one, x.look(a), m.look(a)); break;
            default: tell(random.nextInt(4)); break;
        }
    }

    private void tell(int k) {
        String text = texts.text(k);
        int size = text.length();
        for (int from = 0; from < size; from += 20) {
            int[] five = new int[5];
            for (int i = 0; i < 20; i++) {
                int c = from + i < size ? text.charAt(from + i) : random.nextInt(256);
                five[i / 4] |= c << 24 - i % 4 * 8;
            }
            same("feed(" + five[0] + "," + five[1] + "," + five[2] + "," + five[3] + "," + five[4] + ")",
                x.feed(five[0], five[1], five[2], five[3], five[4]), m.feed(five[0], five[1], five[2], five[3], five[4]));
        }
        if (random.nextInt(12) == 0) {
            int n = some(0, 400);
            same("end(" + n + ")", x.end(n), m.end(n));
        }
        same("end(" + size + ")", x.end(size), m.end(size));
        int which = random.nextInt(30) == 0 ? some(0, 3) : k;
        calls.add("// " + text.replace("\n", "\\n"));
        same("text(" + which + ")", x.text(which), m.text(which));
        for (int what = -1; what < 3; what++) {
            same("fault(" + what + ")", x.fault(what), m.fault(what, true));
        }
    }

    private void change() {
        int n;
        switch (random.nextInt(11)) {
            case 0:
                if (random.nextInt(3) == 0) {
                    tell(random.nextInt(4));
                } else if (random.nextInt(6) == 0) {
                    int v = random.nextInt();
                    same("state(" + v + ")", x.state(v), m.state(v));
                }
                break;
            case 1:
                if (random.nextInt(4) == 0) {
                    int what = some(0, 1);
                    int who = some(0, 9);
                    int v = what == 1 ? some(0, 9) : some(0, 99);
                    same("set(" + what + "," + who + "," + v + ")", x.set(what, who, v), m.set(what, who, v));
                }
                break;
            case 2:
            case 3:
            case 4:
            case 5:
                int what = some(0, 3);
                int who = what == 2 ? some(0, 15) : some(0, 9);
                same("act(" + what + "," + who + ")", x.act(what, who), m.act(what, who));
                break;
            case 6:
            case 7:
                n = random.nextInt(8) == 0 ? some(1, 60) : 1 + random.nextInt(3);
                same("days(" + n + ")", x.days(n), m.days(n));
                break;
            case 8:
            case 9:
                for (int i = random.nextInt(8); i > 0; i--) {
                    same("undo()", x.undo(), m.undo());
                }
                break;
            default:
                boolean taken = random.nextBoolean();
                if (random.nextInt(3) == 0) {
                    same("image(" + taken + ")", x.image(taken), m.image(taken));
                }
                break;
        }
    }

    private void ask() {
        int i;
        int what;
        switch (random.nextInt(6)) {
            case 0:
                i = some(0, 9);
                what = some(0, 4);
                same("of(" + i + "," + what + ")", x.of(i, what), m.of(i, what));
                break;
            case 1:
                i = random.nextBoolean() ? some(0, 3) : some(0, 15);
                what = random.nextBoolean() ? some(0, 5) : some(10, 17);
                same("job(" + i + "," + what + ")", x.job(i, what), m.job(i, what));
                break;
            case 2:
                i = random.nextBoolean() ? some(0, 3) : some(0, 15);
                what = random.nextBoolean() ? some(0, 2) : some(10, 17);
                same("devils(" + i + "," + what + ")", x.devils(i, what), m.devils(i, what));
                break;
            case 3:
                i = some(0, Math.max(0, x.look(9) - 1));
                for (what = -1; what < 5; what++) {
                    same("tray(" + i + "," + what + ")", x.tray(i, what), m.tray(i, what));
                }
                break;
            case 4:
                i = random.nextBoolean() ? some(1, 6) : some(1, 60);
                what = some(0, 3);
                same("goes(" + i + "," + what + ")", x.goes(i, what), m.goes(i, what));
                break;
            default:
                same("out()", x.out(), m.out());
                break;
        }
    }

    private void askAll() {
        if (random.nextBoolean()) {
            for (int what = 0; what < 14; what++) {
                same("look(" + what + ")", x.look(what), m.look(what));
            }
        }
        int what = some(0, 13);
        same("look(" + what + ")", x.look(what), m.look(what));
    }

    private int fewLetters() {
        return random.nextInt(5) == 0 ? some(0, 9) : random.nextInt(3);
    }

    private void think() {
        int v;
        int l;
        switch (random.nextInt(8)) {
            case 0:
            case 1:
                int x0 = some(0, 4);
                int y0 = some(0, 4);
                l = fewLetters();
                same("place(" + x0 + "," + y0 + "," + l + ")", x.place(x0, y0, l), m.place(x0, y0, l));
                break;
            case 2:
            case 3:
            case 4:
                l = random.nextInt(14) == 0 ? -1 : fewLetters();
                same("letter(" + l + ")", x.letter(l), m.letter(l));
                break;
            case 5:
            case 6:
                v = random.nextInt(9) == 0 ? -1 : random.nextInt(3) == 0 ? some(0, 11) : random.nextBoolean()
                    ? fewLetters() : 10 + random.nextInt(2);
                same("sign(" + v + ")", x.sign(v), m.sign(v));
                break;
            default:
                l = some(0, 9);
                v = some(0, 20);
                same("value(" + l + "," + v + ")", x.value(l, v), m.value(l, v));
                break;
        }
    }

    private void askThought() {
        int i;
        int what;
        switch (random.nextInt(14)) {
            case 0:
                same("square()", x.square(), m.square());
                break;
            case 1:
                same("numbers()", x.numbers(), m.numbers());
                break;
            case 2:
                same("pattern()", x.pattern(), m.pattern());
                break;
            case 3:
            case 4:
                i = some(-1, 12);
                same("turned(" + i + ")", x.turned(i), m.turned(i));
                break;
            case 5:
                i = some(0, 11);
                same("front(" + i + ")", x.front(i), m.front(i));
                break;
            case 6:
            case 7:
                for (what = 0; what < 4; what++) {
                    same("row(" + what + ")", x.row(what), m.row(what));
                }
                what = some(0, 3);
                same("row(" + what + ")", x.row(what), m.row(what));
                break;
            case 8:
                i = some(0, 127);
                what = some(0, 2);
                same("seven(" + i + "," + what + ")", x.seven(i, what), m.seven(i, what));
                break;
            case 9:
                i = some(0, 1048575);
                what = some(2, 255);
                same("over(" + i + "," + what + ")", x.over(i, what), m.over(i, what));
                break;
            case 10:
                int n = some(1, 8);
                i = some(0, 1 << Math.max(0, Math.min(8, n)));
                what = some(0, 1);
                same("ring(" + n + "," + i + "," + what + ")", x.ring(n, i, what), m.ring(n, i, what));
                break;
            case 11:
                int key = key();
                i = some(0, 11);
                same("columns(" + key + "," + i + ")", x.columns(key, i), m.columns(key, i));
                break;
            case 12:
                what = random.nextInt(3) == 0 ? some(0, 1) : some(100, 112);
                same("values(" + what + ")", x.values(what), m.values(what));
                break;
            default:
                int beginning = random.nextInt(3) == 0 ? 1 : random.nextInt(8) == 0 ? some(1, 1999) : random.nextBoolean()
                    ? 10 + random.nextInt(10) : random.nextBoolean() ? 100 + 10 * random.nextInt(4) + random.nextInt(4)
                    : 1000 + 100 * random.nextInt(4) + 10 * random.nextInt(4) + random.nextInt(4);
                same("game(" + beginning + ")", x.game(beginning), m.game(beginning));
                break;
        }
    }

    private int key() {
        if (random.nextInt(10) == 0) {
            return some(1, 1999999);
        }
        int k = 1 + random.nextInt(6);
        List<Integer> columns = new ArrayList<>();
        for (int c = 0; c < k; c++) {
            columns.add(c);
        }
        java.util.Collections.shuffle(columns, random);
        int key = 1;
        for (int c : columns) {
            key = key * 10 + c;
        }
        return random.nextInt(12) == 0 ? key + random.nextInt(3) : key;
    }
}
