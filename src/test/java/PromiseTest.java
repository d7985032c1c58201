/** Each promise of the document: ordinary inputs, the edges that it names, and wrong inputs. */
public final class PromiseTest {
    private static final int NONE = DevilsFount.NONE;
    private static final int MIN = Integer.MIN_VALUE;
    private static final int MAX = Integer.MAX_VALUE;

    private static int promise;
    private static int checks;
    private static int wrong;

    public static void main(String[] args) {
        newObject();
        stateIsTold();
        setting();
        byHand();
        daysGoBy();
        daysWithDraws();
        daysGoneBelow();
        feeding();
        ending();
        texts();
        laws();
        faults();
        faultsOfDepth();
        letters();
        jobs();
        devilsBook();
        theTray();
        thoughtOfDays();
        outOfJobs();
        squares();
        rowsOfLetters();
        numbersOfRows();
        patterns();
        turnedRows();
        frontOfShelf();
        rowsThoughtOf();
        sevenBits();
        leftOver();
        rings();
        columnsRead();
        valuesOfLetters();
        games();
        undoing();
        images();
        looks();
        System.out.println(checks + " answers, " + wrong + " of them wrong");
        if (wrong != 0) {
            System.exit(1);
        }
    }

    private static void due(String call, int got, int want) {
        checks++;
        if (got != want) {
            wrong++;
            System.out.println("promise " + promise + ": " + call + " answered " + got + ", due is " + want);
        }
    }

    private static void due(String call, boolean got, boolean want) {
        due(call, got ? 1 : 0, want ? 1 : 0);
    }

    /** Puts a text on the TAPE that was empty. */
    private static void feed(DevilsFount x, String text) {
        for (int from = 0; from < text.length(); from += 20) {
            int[] five = new int[5];
            for (int i = 0; i < 20; i++) {
                int c = from + i < text.length() ? text.charAt(from + i) : ' ';
                five[i / 4] |= c << 24 - i % 4 * 8;
            }
            x.feed(five[0], five[1], five[2], five[3], five[4]);
        }
        x.end(text.length());
    }

    private static int tell(DevilsFount x, int k, String text) {
        feed(x, text);
        return x.text(k);
    }

    private static void faulty(int k, String text, int kind, int place) {
        DevilsFount x = new DevilsFount();
        due("text(" + k + ") of " + text, tell(x, k, text), NONE);
        due("fault(0) of " + text, x.fault(0), kind);
        due("fault(1) of " + text, x.fault(1), place);
    }

    private static void right(int k, String text, int lines) {
        DevilsFount x = new DevilsFount();
        due("text(" + k + ") of " + text, tell(x, k, text), lines);
        due("fault(0) of " + text, x.fault(0), 0);
        due("fault(1) of " + text, x.fault(1), NONE);
    }

    private static void row(DevilsFount x, String digits) {
        x.letter(NONE);
        for (char c : digits.toCharArray()) {
            x.letter(c - '0');
        }
    }

    private static DevilsFount withRow(String digits) {
        DevilsFount x = new DevilsFount();
        row(x, digits);
        return x;
    }

    private static void sorts(DevilsFount x, int... each) {
        for (int l = 0; l < each.length; l++) {
            x.set(0, l, each[l]);
        }
    }

    private static int next(int state) {
        return 1664525 * state + 1013904223;
    }

    private static int thousandth(int state) {
        return (state >>> 8) % 1000;
    }

    private static void newObject() {
        promise = 1;
        DevilsFount x = new DevilsFount();
        for (int l = 0; l < 10; l++) {
            for (int what = 0; what < 5; what++) {
                due("of", x.of(l, what), 0);
            }
        }
        for (int what = 0; what < 14; what++) {
            due("look", x.look(what), what == 4 ? 5 : 0);
        }
        due("fault(0)", x.fault(0), 0);
        due("fault(1)", x.fault(1), NONE);
        due("the constant", NONE, -1);
        due("end(0)", x.end(0), true);
        due("end(1)", x.end(1), false);
        due("image(false)", x.image(false), false);
        due("undo()", x.undo(), false);
    }

    private static void stateIsTold() {
        promise = 2;
        DevilsFount x = new DevilsFount();
        due("state(5)", x.state(5), 0);
        due("state(min)", x.state(MIN), 5);
        due("state(0)", x.state(0), MIN);
        x.days(1);
        due("days draw nothing without jobs", x.state(1), 0);
        x.set(0, 0, 1);
        tell(x, 1, "from 0 a;");
        x.days(1);
        due("one draw", x.state(0), next(1));
    }

    private static void setting() {
        promise = 3;
        DevilsFount x = new DevilsFount();
        due("set(0,0,99)", x.set(0, 0, 99), true);
        due("set(0,9,1)", x.set(0, 9, 1), true);
        due("of(0,0)", x.of(0, 0), 99);
        due("of(9,0)", x.of(9, 0), 1);
        due("set(0,9,0)", x.set(0, 9, 0), true);
        due("of(9,0)", x.of(9, 0), 0);
        due("set(0,0,100)", x.set(0, 0, 100), false);
        due("set(0,0,-1)", x.set(0, 0, -1), false);
        due("set(0,10,1)", x.set(0, 10, 1), false);
        due("set(0,-1,1)", x.set(0, -1, 1), false);
        due("of(0,0)", x.of(0, 0), 99);
        due("set(1,99,9)", x.set(1, 99, 9), true);
        due("look(4)", x.look(4), 9);
        due("set(1,-7,0)", x.set(1, -7, 0), true);
        due("look(4)", x.look(4), 0);
        due("set(1,0,10)", x.set(1, 0, 10), false);
        due("set(1,0,-1)", x.set(1, 0, -1), false);
        due("set(2,0,0)", x.set(2, 0, 0), false);
        due("set(-1,0,0)", x.set(-1, 0, 0), false);
        due("set(max)", x.set(MAX, MAX, MAX), false);
        due("set(0,min,0)", x.set(0, MIN, 0), false);
        due("look(4)", x.look(4), 0);
    }

    private static void byHand() {
        promise = 4;
        DevilsFount x = new DevilsFount();
        due("melt nothing", x.act(1, 3), false);
        due("cast", x.act(0, 3), true);
        due("of(3,0)", x.of(3, 0), 1);
        due("melt", x.act(1, 3), true);
        due("of(3,0)", x.of(3, 0), 0);
        x.set(0, 3, 98);
        due("cast the 99th", x.act(0, 3), true);
        due("cast the 100th", x.act(0, 3), false);
        due("of(3,0)", x.of(3, 0), 99);
        due("cast -1", x.act(0, -1), false);
        due("cast 10", x.act(0, 10), false);
        due("melt -1", x.act(1, -1), false);
        due("melt 10", x.act(1, 10), false);
        due("dare", x.act(3, -5), true);
        due("daring", x.look(4), 6);
        x.set(1, 0, 9);
        due("dare beyond", x.act(3, 0), false);
        due("what 4", x.act(4, 0), false);
        due("what -1", x.act(-1, 0), false);
        due("what min", x.act(MIN, MIN), false);

        DevilsFount y = new DevilsFount();
        sorts(y, 3, 1);
        tell(y, 1, "from 900 aab; from 0 bb; from 0 a;");
        tell(y, 0, "sets 0; breaks 2 + done * 2 - waits + rest - least;");
        due("a job that lacks", y.act(2, 1), false);
        due("job -1", y.act(2, -1), false);
        due("job 3", y.act(2, 3), false);
        // its sorts out, it is done and waits no more: 2 + 2 - 2 + 1 - 0
        due("print whatever its day", y.act(2, 0), true);
        due("printed", y.look(2), 1);
        due("done", y.look(6), 1);
        due("a broken: three and none", y.of(0, 1), 3);
        due("b broken", y.of(1, 1), 1);
        due("a left", y.of(0, 0), 0);
        due("tray day", y.tray(0, 0), 0);
        due("tray what", y.tray(0, 1), 0);
        due("tray which", y.tray(0, 2), 0);
        due("tray breaks", y.tray(0, 3), 3);
        due("no day went by", y.look(8), 0);
        due("no draw", y.look(10), 0);
        due("printed already", y.act(2, 0), false);
        due("lacks all", y.act(2, 2), false);
        due("lines", y.look(9), 1);
    }

    private static void daysGoBy() {
        promise = 5;
        DevilsFount x = new DevilsFount();
        due("days(0)", x.days(0), NONE);
        due("days(-1)", x.days(-1), NONE);
        due("days(61)", x.days(61), NONE);
        due("days(max)", x.days(MAX), NONE);
        due("days(min)", x.days(MIN), NONE);
        due("days(60)", x.days(60), 0);
        due("look(8)", x.look(8), 60);
        for (int i = 0; i < 165; i++) {
            x.days(60);
        }
        due("look(8)", x.look(8), 9960);
        due("days(40)", x.days(40), NONE);
        due("look(8)", x.look(8), 9960);
        due("days(39)", x.days(39), 0);
        due("look(8)", x.look(8), 9999);
        due("days(1)", x.days(1), NONE);
        due("look(8)", x.look(8), 9999);

        DevilsFount y = new DevilsFount();
        sorts(y, 4, 1);
        tell(y, 1, "from 0 ab; from 1 ab; from 0 aab; from 3 aaaaa;");
        due("the first", y.days(1), 1);
        due("wants are on the tray", y.tray(1, 1), 1);
        due("which", y.tray(1, 2), 2);
        due("it lacks one b", y.tray(1, 3), 1);
        due("the others by and by", y.days(2), 2);
        due("set", y.look(2), 7);
        due("nothing broke", y.look(0), 5);
        due("one wants on each day anew", y.days(2), 0);
        due("lines", y.look(9), 1 + 1 + 1 + 1 + 1 + 2);
        due("last line", y.tray(6, 1), 1);
        due("last line's day", y.tray(6, 0), 4);
        due("last line's lack", y.tray(6, 3), 1);
    }

    private static void daysWithDraws() {
        promise = 5;
        int state = 77;
        DevilsFount x = new DevilsFount();
        sorts(x, 9, 9, 9);
        tell(x, 1, "from 0 a; from 0 b; from 0 c; from 0 ab;");
        tell(x, 0, "sets 150 when rest < 27; sets 200;");
        x.state(state);
        int done = 0;
        for (int d = 0; d < 20; d++) {
            int rest = 27;
            for (int i = 0; i < 4; i++) {
                if ((done >> i & 1) == 0) {
                    state = next(state);
                    if (thousandth(state) < (rest < 27 ? 150 : 200)) {
                        done |= 1 << i;
                        rest -= i == 3 ? 2 : 1;
                    }
                }
            }
            x.days(1);
            due("printed after day " + d, x.look(2), done);
            due("state after day " + d, x.look(10), state);
        }
        due("all were printed at last", done, 15);

        DevilsFount y = new DevilsFount();
        sorts(y, 9);
        tell(y, 1, "from 0 a;");
        tell(y, 0, "sets 0;");
        y.days(3);
        due("what is not above 0 asks no draw", y.look(10), 0);
        tell(y, 0, "sets 0 - 9999 * 9999;");
        y.days(1);
        due("held to 0", y.look(10), 0);
        tell(y, 0, "sets 9999;");
        due("held to 1000, always set", y.days(1), 1);
        due("it drew", y.look(10), next(0));
        tell(y, 1, "from 6 a;");
        due("not beyond this day", y.days(1), 0);
        due("its day", y.days(1), 1);
        tell(y, 1, "from 0 a;");
        int edge = thousandth(next(4));
        y.state(4);
        tell(y, 0, "sets " + edge + ";");
        due("a draw that is not below", y.days(1), 0);
        y.state(4);
        tell(y, 0, "sets 1;");
        y.days(1);
        due("1 is above 0", y.look(10), next(4));
        y.state(4);
        tell(y, 0, "sets " + (edge + 1) + ";");
        due("a draw that is below", y.days(1), 1);
    }

    private static void daysGoneBelow() {
        promise = 5;
        DevilsFount x = new DevilsFount();
        sorts(x, 3, 2, 1);
        tell(x, 1, "from 0 ab;");
        tell(x, 2, "word aab; word ab; word cc; word c;");
        tell(x, 0, "dares 1000; breaks 1;");
        x.days(1);
        due("aab lacks nothing of two a and one b: said", x.tray(1, 2), 0);
        due("said what", x.tray(1, 1), 2);
        due("said how much", x.tray(1, 3), 3);
        due("c said", x.tray(2, 2), 3);
        due("said", x.look(5), 2);
        due("blanks", x.look(7), 0);
        due("three draws", x.look(10), next(next(next(0))));
        due("a", x.of(0, 0), 2);
        due("b", x.of(1, 0), 1);
        due("a broken", x.of(0, 1), 1);
        tell(x, 0, "dares 0;");
        x.days(2);
        due("two blanks", x.look(7), 2);
        due("a blank: what", x.tray(4, 1), 3);
        due("a blank: which", x.tray(4, 2), NONE);
        due("a blank: how much", x.tray(4, 3), 2);
        due("a blank: day", x.tray(4, 0), 2);
        tell(x, 2, "");
        x.days(1);
        due("no blank without a book", x.look(7), 2);

        DevilsFount y = new DevilsFount();
        tell(y, 3, "on 0 cast a 50; on 0 cast a 50; on 0 melt a 9; on 1 melt b 3; on 1 dare 9; on 2 calm; on 0 cast b 2;");
        y.days(1);
        due("a: 99 at most, less 9", y.of(0, 0), 90);
        due("b", y.of(1, 0), 2);
        y.days(1);
        due("b: 0 at least", y.of(1, 0), 0);
        due("dare", y.look(4), 9);
        y.days(1);
        due("calm", y.look(4), 0);

        DevilsFount z = new DevilsFount();
        sorts(z, 5);
        tell(z, 1, "from 0 aa; from 0 a; from 0 aaa;");
        tell(z, 0, "breaks rest when length = 2; breaks 8;");
        due("two printed, one wants", z.days(1), 2);
        // three lie in the boxes when aa is out, so twice 3 break of 5, then none is left
        due("broken", z.of(0, 1), 5);
        due("left", z.of(0, 0), 0);
        due("told breaks", z.tray(0, 3), 3);
        due("told breaks", z.tray(1, 3), 8);
        due("wants", z.tray(2, 3), 1);
    }

    private static void feeding() {
        promise = 6;
        DevilsFount x = new DevilsFount();
        for (int i = 1; i <= 20; i++) {
            due("feed", x.feed(0x20202020, 0x20202020, 0x20202020, 0x20202020, 0x20202020), 20 * i);
        }
        due("feed beyond 400", x.feed(1, 2, 3, 4, 5), NONE);
        due("end(400)", x.end(400), true);
        due("end(381)", x.end(381), true);
        due("feed beyond 400", x.feed(1, 2, 3, 4, 5), NONE);
        due("end(382)", x.end(382), false);
        due("end(380)", x.end(380), true);
        due("feed", x.feed(0x0a0a2020, -1, -1, -1, -1), 400);
        due("text(0)", x.text(0), NONE);
        due("the first byte that is no blank", x.fault(1), 384);

        DevilsFount y = new DevilsFount();
        y.feed(0x66726f6d, 0x20312061, 0x62633b20, 0x66726f6d, 0x32206a3b);
        due("from 1 abc; from2 j;", y.text(1), 2);
        due("day", y.job(1, 0), 2);
        due("letter", y.job(1, 10), 9);
        due("letter", y.job(0, 12), 2);
    }

    private static void ending() {
        promise = 7;
        DevilsFount x = new DevilsFount();
        feed(x, "word a; word b;");
        due("end(16)", x.end(16), false);
        due("end(-1)", x.end(-1), false);
        due("end(min)", x.end(MIN), false);
        due("end(max)", x.end(MAX), false);
        due("end(15)", x.end(15), true);
        due("end(7)", x.end(7), true);
        due("text(2)", x.text(2), 1);
        feed(x, "word a;");
        due("end(0)", x.end(0), true);
        due("end(1)", x.end(1), false);
        due("text(2)", x.text(2), 0);
        due("look(3)", x.look(3), 0);
    }

    private static void texts() {
        promise = 8;
        DevilsFount x = new DevilsFount();
        due("text(1)", tell(x, 1, "from 3 abc;\nfrom 999 jihgfedc ;"), 2);
        due("the tape is empty", x.end(1), false);
        due("look(1)", x.look(1), 2);
        due("day", x.job(1, 0), 999);
        due("length", x.job(1, 2), 8);
        x.set(0, 0, 1);
        x.set(0, 1, 1);
        x.set(0, 2, 1);
        x.act(2, 0);
        due("look(2)", x.look(2), 1);
        due("a fault", tell(x, 1, "from 3 k;"), NONE);
        due("the tape is empty", x.end(1), false);
        due("the text stays", x.look(1), 2);
        due("it stays printed", x.look(2), 1);
        due("no such text", tell(x, 4, "from 3 a;"), NONE);
        due("fault() tells 0", x.fault(0), 0);
        due("fault(1)", x.fault(1), NONE);
        due("the tape is empty", x.end(1), false);
        due("text(-1)", x.text(-1), NONE);
        due("text(min)", x.text(MIN), NONE);
        due("text(max)", x.text(MAX), NONE);
        due("told anew", tell(x, 1, "from 0 abc;"), 1);
        due("none is printed", x.look(2), 0);
        due("done stays", x.look(6), 1);
        due("an empty text", x.text(1), 0);
        due("look(1)", x.look(1), 0);
        right(0, "sets 0" + "+0".repeat(196) + "; ", 1);
        faulty(0, ";".repeat(400), 1, 0);
        faulty(0, "sets 1" + "+1".repeat(197), 1, 400);
        right(0, "", 0);
        right(0, " \n ", 0);
        right(2, "word a;".repeat(16), 16);
        right(0, "sets 1;".repeat(16), 16);
        right(1, "from0a;".repeat(16), 16);
        right(3, "on 0 calm;".repeat(16), 16);
        right(3, "on 0 cast a 50; on 999 melt j 1; on 07 dare 9; on 0000calm;", 4);
        right(0, "sets 0001+length-least*rest/9*daring-said+done-waits*blanks/0010+day;", 1);
        right(0, "breaks 1 when 1<2or 1=2and 1>2;dares 9999 when not(not 1=1)or(1=1);", 2);
    }

    /** What THE LAW tells of the job ab, with three a and five b. */
    private static void law(String text, int sets) {
        DevilsFount x = new DevilsFount();
        sorts(x, 3, 5);
        tell(x, 1, "from 0 ab; from 9 a;");
        due("lines of " + text, tell(x, 0, text) > 0, true);
        due("sets of " + text, x.job(0, 3), sets);
    }

    private static void laws() {
        promise = 8;
        law("sets 2 + 3 * 4;", 14);
        law("sets 2 * 3 + 4;", 10);
        law("sets 20 - 3 - 4;", 13);
        law("sets 20 - 3 * 4 / 5 + 1;", 19);
        law("sets 100 / 7 * 7;", 98);
        law("sets 7 * 100 / 7;", 100);
        law("sets 100 + 0 - 1;", 99);
        law("sets 10 + 1 * 0 - 7 * 3 / 2;", 0);
        law("sets 20 - 7 / 2 * 3;", 11);
        // 9999 times 9999 times 25 wraps to 2499500025 - 2 to the 32 = -1795467271
        law("sets 30 + 9999 * 9999 * 25 / 9999 / 9999 + 18;", 31);
        law("sets 18 + 9999 * 9999 * 25 / 9000 / 9999 / 2;", 9);
        law("sets length * 100 + least * 10 + rest;", 2 * 100 + 3 * 10 + 8);
        law("sets daring * 100 + said * 10 + done + waits + blanks + day;", 502);
        law("sets 7 * 4 / 1;", 28);
        law("sets 1 when 1 < 2 and 1 = 1; sets 2;", 1);
        law("sets 1 when 2 > 1 and 1 = 1; sets 2;", 1);
        law("sets 1 when not 1 < 2; sets 2;", 2);
        law("sets 1 when not 2 > 1; sets 2;", 2);
        law("sets 1 when 1 > 1; sets 2 when 1 < 1; sets 3 when 1 = 2; sets 4 when 1 = 1; sets 5;", 4);
        law("breaks 1; dares 2; sets 3; sets 4;", 3);
        law("sets 1 when 1 = 2;", 1000);
        law("breaks 5;", 1000);
        law("sets 5000;", 1000);
        law("sets 0 - 1;", 0);
        law("sets 1 when not 1 = 1 or 1 = 1; sets 2;", 1);
        law("sets 1 when not (1 = 1 or 1 = 1); sets 2;", 2);
        law("sets 1 when 1 = 1 or 1 = 2 and 1 = 2; sets 2;", 1);
        law("sets 1 when (1 = 1 or 1 = 2) and 1 = 2; sets 2;", 2);
        law("sets 1 when 1 = 2 and 1 = 1 or 1 = 1; sets 2;", 1);
        law("sets 1 when not not 1 = 1 and not 1 = 2; sets 2;", 1);
        law("sets 1 when not 1 = 2 and 1 = 2; sets 2;", 2);
        law("sets 1 when 2 + 2 * 2 = 6 and 6 = 2 * 2 + 2; sets 2;", 1);
        law("sets 1 when ((1 = 1) and ((1 = 2) or not (1 = 2))); sets 2;", 1);

        facts();
        DevilsFount x = new DevilsFount();
        sorts(x, 99);
        tell(x, 1, "from 0 a;");
        for (int i = 0; i < 40; i++) {
            tell(x, 0, "sets " + i + " + 0 + 0 + 0 + 0 + 0 + 0 + 0 + 0 + 0 + 0 when 0 + 0 + 0 + 0 + 0 = 0;");
            due("a law told anew", x.job(0, 3), i);
        }
        due("a fault while ( are open", tell(x, 0, "sets 1 when ((((((((1 = 1;"), NONE);
        due("none is open any more", tell(x, 0, "sets 1 when ((((((((1 = 1))))))));"), 1);
        due("it is so", x.job(0, 3), 1);
        tell(x, 0, "breaks 10;");
        due("breaks is held to 9", x.job(0, 4), 9);
        tell(x, 0, "breaks 0 - 1;");
        due("breaks is held to 0", x.job(0, 4), 0);
        tell(x, 0, "breaks 4 when length = 1; breaks 5; sets 7;");
        due("a fault", tell(x, 0, "sets;"), NONE);
        due("the law stays", x.job(0, 4), 4);
        due("its lines stay", x.look(11), 3);
        due("an empty law", x.text(0), 0);
        due("breaks without one", x.job(0, 4), 0);
        due("sets without one", x.job(0, 3), 1000);
    }

    /** Each fact has a value of its own here. */
    private static void facts() {
        DevilsFount x = new DevilsFount();
        sorts(x, 20, 15);
        tell(x, 1, "from 0 a; from 0 ab; from 100 aabb; from 100 b; from 100 b; from 100 b; from 100 b;");
        tell(x, 2, "word a; word b; word a;");
        x.days(1);
        tell(x, 0, "dares 0;");
        x.set(1, 0, 8);
        x.days(9);
        x.set(0, 1, 16);
        String[] facts = {"length", "least", "rest", "daring", "said", "done", "waits", "blanks", "day"};
        int[] want = {4, 16, 36, 8, x.look(5), 2, 5, 9, 10};
        due("he said something, not all", want[4] > 0 && want[4] != 2 && want[4] != 5, true);
        for (int f = 0; f < facts.length; f++) {
            tell(x, 0, "sets 3 * " + facts[f] + ";");
            due("3 * " + facts[f], x.job(2, 3), 3 * want[f]);
            tell(x, 0, "sets " + facts[f] + " / 2;");
            due(facts[f] + " / 2", x.job(2, 3), want[f] / 2);
        }
        tell(x, 0, "sets day; breaks waits;");
        due("thought of", x.goes(5, 0), 2);
        due("its day is not in thought", x.job(2, 3), 10);
        x.out();
        due("a print is not in thought", x.act(2, 2), true);
        due("it is on the tray", x.tray(x.look(9) - 1, 2), 2);
        due("and told", x.tray(x.look(9) - 1, 3), 4);
    }

    private static void faults() {
        promise = 9;
        DevilsFount x = new DevilsFount();
        tell(x, 2, "word ab cd;");
        due("fault(0)", x.fault(0), 1);
        due("fault(1)", x.fault(1), 8);
        due("fault(2)", x.fault(2), NONE);
        due("fault(-1)", x.fault(-1), NONE);
        due("fault(min)", x.fault(MIN), NONE);
        tell(x, 2, "word a;");
        due("fault(0) of the latest", x.fault(0), 0);
        due("fault(1) of the latest", x.fault(1), NONE);
        faulty(0, "sets", 1, 4);
        faulty(0, "sets  \n", 1, 7);
        faulty(0, "sets 1", 1, 6);
        faulty(0, "sets 1 2;", 1, 7);
        faulty(0, "sets 00001;", 1, 5);
        faulty(0, "sets 1 +;", 1, 8);
        faulty(0, "sets 1 + + 1;", 1, 9);
        faulty(0, "sets -1;", 1, 5);
        faulty(0, "sets (1);", 1, 5);
        faulty(0, "sets 1 / length;", 1, 9);
        faulty(0, "sets 1 / 0;", 2, 9);
        faulty(0, "sets 1 / 0000;", 2, 9);
        faulty(0, "sets 1 / 00000;", 1, 9);
        faulty(0, "sets 1 when;", 1, 11);
        faulty(0, "sets 1 when 1;", 1, 13);
        faulty(0, "sets 1 when 1 = 1 = 1;", 1, 18);
        faulty(0, "sets 1 when (1 = 1;", 1, 18);
        faulty(0, "sets 1 when 1 = 1);", 1, 17);
        faulty(0, "sets 1 when ((1 = 1);", 1, 20);
        faulty(0, "sets 1 when (1 = 1)) ;", 1, 19);
        faulty(0, "sets 1 when 1 = 1 and;", 1, 21);
        faulty(0, "sets 1 when 1 = 1 not 1 = 1;", 1, 18);
        faulty(0, "sets 1 when or 1 = 1;", 1, 12);
        faulty(0, "sets 1 when (1) = 1;", 1, 14);
        faulty(0, "sets 1 when 1 = 1 when 1 = 1;", 1, 18);
        faulty(0, "sets a;", 1, 5);
        faulty(0, "sets from;", 1, 5);
        faulty(0, "Sets 1;", 1, 0);
        faulty(0, "set 1;", 1, 0);
        faulty(0, "setssets 1;", 1, 0);
        faulty(0, "length 1;", 1, 0);
        faulty(0, "sets 1;;", 1, 7);
        faulty(0, "sets 1\t;", 1, 6);
        faulty(0, "sets 1 \u00ff;", 1, 7);
        faulty(0, "sets 1;".repeat(16) + " dares 1;", 3, 113);
        faulty(0, "sets 1;".repeat(16) + " from", 1, 113);
        faulty(0, "sets 1;".repeat(15) + "sets 1/0; sets 1;", 2, 112);
        faulty(1, "from 1000 a;", 2, 5);
        faulty(1, "from 10000 a;", 1, 5);
        faulty(1, "from a;", 1, 5);
        faulty(1, "from 1;", 1, 6);
        faulty(1, "from 1 abcdefgha;", 2, 7);
        faulty(1, "from 1 abk;", 2, 7);
        faulty(1, "from 1 aB;", 2, 7);
        faulty(1, "from 1 word;", 2, 7);
        faulty(1, "from 1 from;", 1, 7);
        faulty(1, "from 1 a; k", 1, 10);
        faulty(1, "from0a;".repeat(17), 3, 112);
        faulty(2, "word az;", 2, 5);
        faulty(2, "word aA;", 2, 5);
        faulty(2, "word aZ;", 2, 5);
        faulty(2, "word a@;", 1, 6);
        faulty(2, "word a[;", 1, 6);
        faulty(2, "word a`;", 1, 6);
        faulty(2, "word a{;", 1, 6);
        faulty(1, "from 1/a;", 1, 6);
        faulty(1, "from 1:a;", 1, 6);
        faulty(3, "cast a 5;", 1, 0);
        faulty(3, "on 0 calm;".repeat(16) + "cast", 1, 160);
        faulty(0, "when 1;", 1, 0);
        faulty(0, "sets 1;".repeat(16) + "when", 1, 112);
        faulty(2, "word;", 1, 4);
        faulty(2, "word 1;", 1, 5);
        faulty(2, "word word;", 1, 5);
        faulty(2, "word day;", 2, 5);
        faulty(2, "word a", 1, 6);
        faulty(2, "word a+;", 1, 6);
        faulty(2, "word a;".repeat(16) + "word", 3, 112);
        faulty(2, "word a;".repeat(16) + "a", 1, 112);
        faulty(3, "on 1000 calm;", 2, 3);
        faulty(3, "on 1 cast a 0;", 2, 12);
        faulty(3, "on 1 cast a 51;", 2, 12);
        faulty(3, "on 1 melt a 0;", 2, 12);
        faulty(3, "on 1 melt j 51;", 2, 12);
        faulty(3, "on 1 melt ab 5;", 2, 10);
        faulty(3, "on 1 cast k 5;", 2, 10);
        faulty(3, "on 1 cast 5;", 1, 10);
        faulty(3, "on 1 cast on 5;", 1, 10);
        faulty(3, "on 1 cast a;", 1, 11);
        faulty(3, "on 1 dare 0;", 2, 10);
        faulty(3, "on 1 dare 10;", 2, 10);
        faulty(3, "on 1 dare a;", 1, 10);
        faulty(3, "on 1 calm 1;", 1, 10);
        faulty(3, "on 1 on;", 1, 5);
        faulty(3, "on 1 word;", 1, 5);
        faulty(3, "on 1;", 1, 4);
        faulty(3, "calm;", 1, 0);
        faulty(3, "on 0 calm;".repeat(17), 3, 160);
    }

    private static void faultsOfDepth() {
        promise = 9;
        right(0, "sets 1 when " + "(".repeat(8) + "1=1" + ")".repeat(8) + ";", 1);
        right(0, "sets 1 when " + "not ".repeat(8) + "1=1;", 1);
        right(0, "sets 1 when " + "not(".repeat(4) + "1=1" + ")".repeat(4) + ";", 1);
        right(0, "sets 1 when " + "(1=1)and ".repeat(12) + "1=1;", 1);
        right(0, "sets 1 when " + "not 1=1 or ".repeat(12) + "1=1;", 1);
        right(0, "sets 1 when " + "(not 1=1)and not(1=1)or ".repeat(8) + "1=1;", 1);
        faulty(0, "sets 1 when " + "(".repeat(9) + "1=1" + ")".repeat(9) + ";", 3, 20);
        faulty(0, "sets 1 when " + "not ".repeat(9) + "1=1;", 3, 44);
        faulty(0, "sets 1 when " + "not(".repeat(5) + "1=1" + ")".repeat(5) + ";", 3, 28);
        faulty(0, "sets 1 when not (" + "1=1 and not 1=1 and ".repeat(3) + "(".repeat(7) + "1=1", 3, 83);
        faulty(0, "sets 1 when " + "(".repeat(8) + "1=1" + ")".repeat(9) + ";", 1, 31);
        faulty(0, "sets 1 when " + "(".repeat(8) + "1=1" + ")".repeat(7) + ";", 1, 30);
    }

    private static void letters() {
        promise = 10;
        DevilsFount x = new DevilsFount();
        sorts(x, 9, 1, 2, 5, 0, 0, 0, 0, 0, 7);
        tell(x, 1, "from 0 aab; from 500 bac; from 0 d;");
        tell(x, 2, "word aa; word bab; word j;");
        int[][] want = {{9, 0, 6, 3, 3}, {1, 0, 0, 2, 2}, {2, 0, 1, 1, 0}, {5, 0, 4, 1, 0}, {0, 0, 0, 0, 0}};
        for (int l = 0; l < 5; l++) {
            for (int what = 0; what < 5; what++) {
                due("of(" + l + "," + what + ")", x.of(l, what), want[l][what]);
            }
        }
        due("of(9,4)", x.of(9, 4), 1);
        tell(x, 0, "breaks 2;");
        x.act(2, 2);
        due("of(3,0)", x.of(3, 0), 3);
        due("of(3,1)", x.of(3, 1), 2);
        due("of(3,2)", x.of(3, 2), 3);
        due("of(3,3)", x.of(3, 3), 0);
        tell(x, 1, "from 0 c;");
        tell(x, 2, "word c;");
        due("of(0,3) of fewer jobs", x.of(0, 3), 0);
        due("of(1,3) of fewer jobs", x.of(1, 3), 0);
        due("of(0,4) of a smaller book", x.of(0, 4), 0);
        due("of(1,4) of a smaller book", x.of(1, 4), 0);
        due("of(-1,0)", x.of(-1, 0), NONE);
        due("of(10,0)", x.of(10, 0), NONE);
        due("of(0,5)", x.of(0, 5), NONE);
        due("of(0,-1)", x.of(0, -1), NONE);
        due("of(min,max)", x.of(MIN, MAX), NONE);
    }

    private static void jobs() {
        promise = 11;
        DevilsFount x = new DevilsFount();
        sorts(x, 2, 1);
        tell(x, 1, "from 7 aab; from 999 abcdefgh; from 0 a;");
        tell(x, 0, "sets 100 * least + rest + waits; breaks rest when least = 1; breaks 9;");
        due("day", x.job(0, 0), 7);
        due("day", x.job(1, 0), 999);
        due("printed", x.job(0, 1), 0);
        due("length", x.job(0, 2), 3);
        due("sets", x.job(0, 3), 106);
        due("sets though it lacks", x.job(1, 3), 6);
        due("breaks, its own sorts in the boxes", x.job(0, 4), 3);
        due("breaks", x.job(2, 4), 9);
        due("lacks none", x.job(0, 5), 0);
        due("lacks", x.job(1, 5), 6);
        due("letter 0", x.job(0, 10), 0);
        due("letter 2", x.job(0, 12), 1);
        due("letter 3", x.job(0, 13), NONE);
        due("letter 7", x.job(0, 17), NONE);
        due("letter 7", x.job(1, 17), 7);
        due("letter 8", x.job(1, 18), NONE - 1);
        due("what 6", x.job(0, 6), NONE - 1);
        due("what 9", x.job(0, 9), NONE - 1);
        due("what -1", x.job(0, -1), NONE - 1);
        due("what max", x.job(0, MAX), NONE - 1);
        due("job -1", x.job(-1, 0), NONE - 1);
        due("job 3", x.job(3, 0), NONE - 1);
        due("job 16", x.job(16, 0), NONE - 1);
        due("job min", x.job(MIN, 0), NONE - 1);
        tell(x, 0, "sets waits;");
        x.act(2, 2);
        due("printed", x.job(2, 1), 1);
        due("sets, printed or not", x.job(2, 3), 2);
        due("lacks, printed or not", x.job(2, 5), 0);
        sorts(x, 0, 0);
        due("lacks each", x.job(0, 5), 3);
    }

    private static void devilsBook() {
        promise = 12;
        DevilsFount x = new DevilsFount();
        sorts(x, 2, 1);
        tell(x, 2, "word aab; word abb; word jihgfedc;");
        due("length", x.devils(0, 0), 3);
        due("length", x.devils(2, 0), 8);
        due("dares without a law", x.devils(0, 1), 500);
        x.set(1, 0, 0);
        due("dares of the calm", x.devils(0, 1), 0);
        due("could be set all the same", x.devils(0, 2), 1);
        due("could not", x.devils(1, 2), 0);
        tell(x, 0, "dares 100 * least + length + rest;");
        due("dares by law", x.devils(0, 1), 106);
        due("dares by law", x.devils(2, 1), 11);
        due("letter", x.devils(0, 12), 1);
        due("letter", x.devils(0, 13), NONE);
        due("letter", x.devils(2, 17), 2);
        due("letter 8", x.devils(2, 18), NONE - 1);
        due("what 3", x.devils(0, 3), NONE - 1);
        due("what 9", x.devils(0, 9), NONE - 1);
        due("what -1", x.devils(0, -1), NONE - 1);
        due("word 3", x.devils(3, 0), NONE - 1);
        due("word -1", x.devils(-1, 0), NONE - 1);
        due("word max", x.devils(MAX, MIN), NONE - 1);
    }

    private static void theTray() {
        promise = 13;
        DevilsFount x = new DevilsFount();
        due("tray(0,0)", x.tray(0, 0), NONE - 1);
        tell(x, 1, "from 0 abc;");
        tell(x, 2, "word a;");
        x.set(0, 1, 1);
        x.days(60);
        due("lines", x.look(9), 120);
        x.days(15);
        due("lines", x.look(9), 150);
        x.days(1);
        due("no more then", x.look(9), 150);
        due("line 149: a blank", x.tray(149, 1), 3);
        due("line 149: its day", x.tray(149, 0), 74);
        due("line 149: which", x.tray(149, 2), NONE);
        due("line 149: blanks", x.tray(149, 3), 75);
        due("line 148: wants", x.tray(148, 1), 1);
        due("line 148: which", x.tray(148, 2), 0);
        due("line 148: how much", x.tray(148, 3), 2);
        due("line 150", x.tray(150, 0), NONE - 1);
        due("line -1", x.tray(-1, 0), NONE - 1);
        due("line min", x.tray(MIN, 0), NONE - 1);
        due("what 4", x.tray(0, 4), NONE - 1);
        due("what -1", x.tray(0, -1), NONE - 1);
        due("what max", x.tray(0, MAX), NONE - 1);
        due("blanks all the same", x.look(7), 76);
        x.undo();
        due("lines", x.look(9), 150);
        x.undo();
        due("lines", x.look(9), 148);
    }

    private static void thoughtOfDays() {
        promise = 14;
        DevilsFount x = new DevilsFount();
        sorts(x, 5, 5);
        tell(x, 1, "from 0 aa; from 2 b; from 4 ab;");
        tell(x, 2, "word b; word bb;");
        tell(x, 3, "on 3 cast c 7; on 5 calm;");
        tell(x, 0, "sets 500 when length = 2; sets 499 when day < 9; sets 999; breaks 1; dares 500 when day > 1; dares 499;");
        x.state(123);
        due("done 1", x.goes(1, 0), 1);
        due("done 3", x.goes(3, 0), 1);
        due("done 5", x.goes(5, 0), 2);
        due("done 9", x.goes(9, 0), 2);
        due("done 10", x.goes(10, 0), 3);
        due("said 2", x.goes(2, 1), 0);
        due("said 3", x.goes(3, 1), 2);
        due("blanks 2", x.goes(2, 3), 2);
        due("blanks 60", x.goes(60, 3), 2);
        due("sorts 1", x.goes(1, 2), 8);
        due("sorts 4", x.goes(4, 2), 15);
        due("sorts 5", x.goes(5, 2), 13);
        due("sorts 60", x.goes(60, 2), 12);
        due("goes(0,0)", x.goes(0, 0), NONE);
        due("goes(61,0)", x.goes(61, 0), NONE);
        due("goes(-1,0)", x.goes(-1, 0), NONE);
        due("goes(max,0)", x.goes(MAX, 0), NONE);
        due("goes(1,4)", x.goes(1, 4), NONE);
        due("goes(1,-1)", x.goes(1, -1), NONE);
        due("nothing stays", x.look(8) + x.look(9) + x.look(6) + x.look(5) + x.look(7) + x.look(2), 0);
        due("no draws", x.look(10), 123);
        due("daring stays", x.look(4), 5);
        due("sorts stay", x.look(0), 10);
        due("nothing to undo", x.look(13), 0);
    }

    private static void outOfJobs() {
        promise = 15;
        DevilsFount x = new DevilsFount();
        due("none told", x.out(), 0);
        sorts(x, 2);
        tell(x, 1, "from 0 aa; from 0 a; from 59 a;");
        due("a job of a later day", x.out(), 60);
        tell(x, 1, "from 0 aa; from 0 a; from 60 a;");
        due("not within 60", x.out(), NONE);
        tell(x, 1, "from 0 aa; from 0 a;");
        due("two days", x.out(), 2);
        x.days(1);
        due("one day", x.out(), 1);
        x.days(1);
        due("now", x.out(), 0);
        tell(x, 1, "from 0 a;");
        tell(x, 0, "sets 499;");
        due("never", x.out(), NONE);
        due("nothing stays", x.look(8), 2);
    }

    private static void squares() {
        promise = 16;
        DevilsFount x = new DevilsFount();
        due("place(-1,0,0)", x.place(-1, 0, 0), false);
        due("place(5,0,0)", x.place(5, 0, 0), false);
        due("place(0,-1,0)", x.place(0, -1, 0), false);
        due("place(0,5,0)", x.place(0, 5, 0), false);
        due("place(0,0,-1)", x.place(0, 0, -1), false);
        due("place(0,0,10)", x.place(0, 0, 10), false);
        due("place(min)", x.place(MIN, MAX, MIN), false);
        due("place(0,4,0)", x.place(0, 4, 0), true);
        due("place(4,0,0)", x.place(4, 0, 0), true);
        row(x, "0");
        due("one letter: once for each place", x.square(), 25);
        due("place(4,4,9)", x.place(4, 4, 9), true);
        due("24 places", x.square(), 24);
        promise = 18;
        row(x, "");
        due("an empty row", x.square(), 0);
        row(x, "000000");
        due("more than five", x.square(), 0);
        row(x, "00000");
        // of the twelve lines of five, three go through the corner; each is read from both ends
        due("five letters", x.square(), 2 * (12 - 3));
        row(x, "90");
        due("from the corner in three ways", x.square(), 3);
        row(x, "09");
        due("to the corner in three ways", x.square(), 3);
        DevilsFount y = new DevilsFount();
        int[][] told = {{1, 2, 3}, {0, 2, 0}, {3, 0, 3}};
        for (int i = 0; i < 3; i++) {
            for (int j = 0; j < 3; j++) {
                y.place(j + 1, i + 1, told[i][j]);
            }
        }
        row(y, "123");
        due("123: along the edge and across", y.square(), 2);
        row(y, "321");
        due("321", y.square(), 2);
        row(y, "323");
        due("323, alike both ways", y.square(), 2);
        row(y, "22");
        due("22", y.square(), 2);
        row(y, "33");
        due("33", y.square(), 0);
        row(y, "2");
        due("2", y.square(), 2);
    }

    private static void rowsOfLetters() {
        promise = 17;
        DevilsFount x = new DevilsFount();
        for (int i = 1; i <= 12; i++) {
            due("letter", x.letter(i % 10), i);
        }
        due("the thirteenth", x.letter(0), NONE);
        due("letter(10)", x.letter(10), NONE);
        due("letter(-2)", x.letter(-2), NONE);
        due("letter(min)", x.letter(MIN), NONE);
        due("letter(max)", x.letter(MAX), NONE);
        due("front(11)", x.front(11) >= 0, true);
        due("letter(NONE)", x.letter(NONE), 0);
        due("letter(9)", x.letter(9), 1);
        due("letter(10)", x.letter(10), NONE);
        due("front(1)", x.front(1), NONE);
    }

    private static void numbers(String digits, int ways) {
        due("numbers of " + digits, withRow(digits).numbers(), ways);
    }

    private static void numbersOfRows() {
        promise = 19;
        numbers("", 1);
        numbers("0", 0);
        numbers("1", 1);
        numbers("10", 1);
        numbers("01", 0);
        numbers("26", 2);
        numbers("27", 1);
        numbers("30", 0);
        numbers("100", 0);
        numbers("110", 1);
        numbers("226", 3);
        numbers("111111111111", 233);
        numbers("101010101010", 1);
        numbers("262626262626", 64);
        numbers("206", 1);
    }

    private static void pattern(String digits, int[] signs, int fits) {
        DevilsFount x = withRow(digits);
        for (int v : signs) {
            x.sign(v);
        }
        due("pattern of " + digits + " by " + java.util.Arrays.toString(signs), x.pattern(), fits);
    }

    private static void patterns() {
        promise = 20;
        DevilsFount x = new DevilsFount();
        for (int i = 1; i <= 8; i++) {
            due("sign", x.sign(i + 3), i);
        }
        due("the ninth", x.sign(0), NONE);
        due("sign(12)", x.sign(12), NONE);
        due("sign(-2)", x.sign(-2), NONE);
        due("sign(min)", x.sign(MIN), NONE);
        due("sign(max)", x.sign(MAX), NONE);
        due("sign(NONE)", x.sign(NONE), 0);
        due("pattern of nothing", x.pattern(), 1);
        due("sign(11)", x.sign(11), 1);
        due("any letters, none, too", x.pattern(), 1);
        promise = 21;
        pattern("", new int[] {}, 1);
        pattern("0", new int[] {}, 0);
        pattern("", new int[] {10}, 0);
        pattern("", new int[] {11, 11}, 1);
        pattern("7", new int[] {7}, 1);
        pattern("7", new int[] {6}, 0);
        pattern("7", new int[] {10}, 1);
        pattern("77", new int[] {10}, 0);
        pattern("123", new int[] {1, 11, 3}, 1);
        pattern("13", new int[] {1, 11, 3}, 1);
        pattern("1332", new int[] {1, 11, 3}, 0);
        pattern("1", new int[] {1, 11, 1}, 0);
        pattern("121212121213", new int[] {11, 1, 10, 11, 2, 1, 3}, 1);
        pattern("121212121212", new int[] {11, 1, 10, 11, 2, 1, 3}, 0);
        pattern("000000000000", new int[] {10, 10, 10, 10, 10, 10, 10, 10}, 0);
        pattern("00000000", new int[] {10, 10, 10, 10, 10, 10, 10, 10}, 1);
        pattern("000000000000", new int[] {11, 0, 11, 0, 11, 0, 11, 0}, 1);
        pattern("000000000001", new int[] {11, 0, 11, 0, 11, 0, 11, 0}, 0);
    }

    private static void turnedRows() {
        promise = 22;
        DevilsFount x = withRow("");
        due("turned(NONE) of nothing", x.turned(NONE), NONE);
        due("turned(0) of nothing", x.turned(0), NONE);
        // banana as 102020: 010202, 020102, 020201, 102020, 201020, 202010
        row(x, "102020");
        int[] last = {2, 2, 1, 0, 0, 0};
        for (int i = 0; i < 6; i++) {
            due("turned(" + i + ")", x.turned(i), last[i]);
        }
        due("turned(NONE)", x.turned(NONE), 3);
        due("turned(6)", x.turned(6), NONE);
        due("turned(-2)", x.turned(-2), NONE);
        due("turned(min)", x.turned(MIN), NONE);
        due("turned(max)", x.turned(MAX), NONE);
        row(x, "1010");
        due("of alike ones the first", x.turned(NONE), 2);
        due("alike ones as they come", x.turned(0) * 1000 + x.turned(1) * 100 + x.turned(2) * 10 + x.turned(3), 1100);
        row(x, "555555555555");
        due("all alike", x.turned(NONE), 0);
        due("all alike", x.turned(11), 5);
    }

    private static void frontOfShelf() {
        promise = 23;
        DevilsFount x = withRow("990190059");
        int[] want = {9, 0, 1, 2, 2, 2, 0, 6, 2};
        for (int i = 0; i < want.length; i++) {
            due("front(" + i + ")", x.front(i), want[i]);
        }
        due("front(9)", x.front(9), NONE);
        due("front(-1)", x.front(-1), NONE);
        due("front(max)", x.front(MAX), NONE);
        due("front(min)", x.front(MIN), NONE);
        due("front(0) of nothing", withRow("").front(0), NONE);
    }

    private static void thought(String digits, int pieces, int border, int mirrors, int heads) {
        DevilsFount x = withRow(digits);
        due("pieces of " + digits, x.row(0), pieces);
        due("border of " + digits, x.row(1), border);
        due("mirrors of " + digits, x.row(2), mirrors);
        due("heads of " + digits, x.row(3), heads);
    }

    private static void rowsThoughtOf() {
        promise = 24;
        thought("", 0, 0, 0, 0);
        thought("7", 1, 0, 1, 1);
        thought("77", 2, 1, 1, 2);
        thought("777777777777", 12, 11, 1, 12);
        thought("012", 6, 0, 3, 1);
        thought("210", 6, 0, 3, 3);
        thought("0101", 7, 2, 2, 2);
        thought("00100", 11, 2, 1, 3);
        thought("0010011", 20, 0, 2, 1);
        thought("102020", 15, 0, 2, 4);
        thought("012345678901", 75, 2, 12, 2);
        DevilsFount x = withRow("12");
        due("row(4)", x.row(4), NONE);
        due("row(-1)", x.row(-1), NONE);
        due("row(min)", x.row(MIN), NONE);
        due("row(max) of nothing", withRow("").row(MAX), NONE);
    }

    private static void sevenBits() {
        promise = 25;
        DevilsFount x = new DevilsFount();
        int[] codes = {0, 105, 42, 67, 76, 37, 102, 15, 112, 25, 90, 51, 60, 85, 22, 127};
        for (int w = 0; w < 16; w++) {
            due("seven(" + w + ",0)", x.seven(w, 0), codes[w]);
            due("seven of a code, 1", x.seven(codes[w], 1), w);
            due("seven of a code, 2", x.seven(codes[w], 2), 0);
            for (int place = 1; place <= 7; place++) {
                int hurt = codes[w] ^ 1 << 7 - place;
                due("seven(" + hurt + ",1)", x.seven(hurt, 1), w);
                due("seven(" + hurt + ",2)", x.seven(hurt, 2), place);
            }
        }
        due("seven(16,0)", x.seven(16, 0), NONE);
        due("seven(-1,0)", x.seven(-1, 0), NONE);
        due("seven(128,1)", x.seven(128, 1), NONE);
        due("seven(-1,1)", x.seven(-1, 1), NONE);
        due("seven(128,2)", x.seven(128, 2), NONE);
        due("seven(min,2)", x.seven(MIN, 2), NONE);
        due("seven(0,3)", x.seven(0, 3), NONE);
        due("seven(0,-1)", x.seven(0, -1), NONE);
        due("seven(0,max)", x.seven(0, MAX), NONE);
    }

    private static void leftOver() {
        promise = 26;
        DevilsFount x = new DevilsFount();
        due("over(13,11)", x.over(13, 11), 1);
        due("over(0b11010011101100,0b1011)", x.over(0b11010011101100, 0b1011), 0b100);
        due("over(1,2)", x.over(1, 2), 0);
        due("over(1,3)", x.over(1, 3), 1);
        due("over(3,3)", x.over(3, 3), 0);
        due("over(0,255)", x.over(0, 255), 0);
        due("over(1,255)", x.over(1, 255), 127);
        due("over(1048575,255)", x.over(1048575, 255), 120);
        due("over(1048575,128)", x.over(1048575, 128), 0);
        due("over(1048575,3)", x.over(1048575, 3), 0);
        due("over(1048574,3)", x.over(1048574, 3), 1);
        due("over(1048576,3)", x.over(1048576, 3), NONE);
        due("over(-1,3)", x.over(-1, 3), NONE);
        due("over(1,1)", x.over(1, 1), NONE);
        due("over(1,0)", x.over(1, 0), NONE);
        due("over(1,256)", x.over(1, 256), NONE);
        due("over(1,-3)", x.over(1, -3), NONE);
        due("over(min,max)", x.over(MIN, MAX), NONE);
    }

    private static void rings() {
        promise = 27;
        DevilsFount x = new DevilsFount();
        String[] rings = {"", "01", "0011", "00010111", "0000100110101111", "00000100011001010011101011011111"};
        for (int n = 1; n <= 5; n++) {
            for (int i = 0; i < 1 << n; i++) {
                due("ring(" + n + "," + i + ",0)", x.ring(n, i, 0), rings[n].charAt(i) - '0');
            }
        }
        for (int n = 8; n >= 1; n--) {
            x = new DevilsFount();
            int[] ring = new int[1 << n];
            for (int i = 0; i < 1 << n; i++) {
                ring[i] = x.ring(n, i, 0);
            }
            due("behind the last", x.ring(n, 1 << n, 0), NONE);
            due("far behind the last", x.ring(n, (1 << n) + 1, 1), NONE);
            due("before the first", x.ring(n, -1, 0), NONE);
            due("before the first", x.ring(n, -1, 1), NONE);
            due("another what", x.ring(n, 0, 2), NONE);
            due("another what", x.ring(n, 0, -1), NONE);
            ringReadRound(n, ring);
        }
        x = new DevilsFount();
        due("ring(3,7,0)", x.ring(3, 7, 0), 1);
        due("another ring: ring(4,8,1)", x.ring(4, 8, 1), 2);
        due("ring(0,0,0)", x.ring(0, 0, 0), NONE);
        due("ring(9,0,0)", x.ring(9, 0, 0), NONE);
        due("ring(-1,0,1)", x.ring(-1, 0, 1), NONE);
        due("ring(min)", x.ring(MIN, MIN, MIN), NONE);
        due("ring(max)", x.ring(MAX, MAX, MAX), NONE);
    }

    private static void ringReadRound(int n, int[] ring) {
        DevilsFount x = new DevilsFount();
        int ones = 0;
        boolean[] seen = new boolean[1 << n];
        for (int i = 0; i < 1 << n; i++) {
            due("ring(" + n + "," + i + ",1)", x.ring(n, i, 1), ones);
            ones += ring[i];
            int bits = 0;
            for (int k = 0; k < n; k++) {
                bits = bits * 2 + ring[i + k & (1 << n) - 1];
            }
            due("a row of " + n + " bits stands once", seen[bits], false);
            seen[bits] = true;
        }
        due("half of them", x.ring(n, 1 << n, 1), 1 << n - 1);
    }

    private static void columns(String digits, int key, String want) {
        DevilsFount x = withRow(digits);
        for (int i = 0; i < want.length(); i++) {
            due("columns(" + key + "," + i + ") of " + digits, x.columns(key, i), want.charAt(i) - '0');
        }
        due("columns(" + key + ") of " + digits + " behind", x.columns(key, want.length()), NONE);
        due("columns(" + key + ") of " + digits + " before", x.columns(key, -1), NONE);
    }

    private static void columnsRead() {
        promise = 28;
        columns("", 10, "");
        columns("12345", 10, "12345");
        columns("12345", 101, "13524");
        columns("12345", 110, "24135");
        columns("12345678", 1201, "361472" + "58");
        columns("12345678", 1120, "258361" + "47");
        columns("12", 1201, "12");
        columns("012345678901", 1543210, "514039281706");
        columns("0123456", 1012345, "0612345");
        DevilsFount x = withRow("0123456789");
        for (int key : new int[] {0, 1, -10, 11, 19, 20, 100, 111, 120, 200, 1000, 1013, 2012, 1123, 1112345, 1012346,
            2012345, 10123456, 12345, MIN, MAX}) {
            due("columns(" + key + ",0)", x.columns(key, 0), NONE);
        }
        due("columns(10,max)", x.columns(10, MAX), NONE);
        due("columns(10,min)", x.columns(10, MIN), NONE);
    }

    private static void valuesOfLetters() {
        promise = 29;
        DevilsFount x = new DevilsFount();
        due("value(-1,0)", x.value(-1, 0), false);
        due("value(10,0)", x.value(10, 0), false);
        due("value(0,-1)", x.value(0, -1), false);
        due("value(0,21)", x.value(0, 21), false);
        due("value(min,max)", x.value(MIN, MAX), false);
        due("value(9,20)", x.value(9, 20), true);
        due("value(1,1)", x.value(1, 1), true);
        due("value(0,20)", x.value(0, 20), true);
        due("value(0,0)", x.value(0, 0), true);
        due("value(2,2)", x.value(2, 2), true);
        promise = 30;
        row(x, "120910992");
        due("all", x.values(0), 1 + 2 + 0 + 20 + 1 + 0 + 20 + 20 + 2);
        due("unlike sums", x.values(1), 8);
        int[] greatest = {0, 20, 40, 42, 42, 61, 63, 63, 65, 66, 66, 66, 66};
        for (int k = 0; k <= 12; k++) {
            due("values(" + (100 + k) + ")", x.values(100 + k), greatest[k]);
        }
        due("values(113)", x.values(113), NONE);
        due("values(99)", x.values(99), NONE);
        due("values(2)", x.values(2), NONE);
        due("values(-1)", x.values(-1), NONE);
        due("values(max)", x.values(MAX), NONE);
        row(x, "");
        due("all of nothing", x.values(0), 0);
        due("sums of nothing", x.values(1), 1);
        due("greatest of nothing", x.values(112), 0);
        row(x, "999999999999");
        due("all", x.values(0), 240);
        due("greatest", x.values(112), 240);
        due("greatest", x.values(100), 0);
    }

    private static void games() {
        promise = 31;
        DevilsFount x = new DevilsFount();
        due("no book", x.game(1), NONE);
        tell(x, 2, "word abcde;");
        due("too long a word", x.game(1), NONE);
        due("too long a word", x.game(10), NONE);
        tell(x, 2, "word a;");
        due("the first makes a", x.game(1), NONE);
        tell(x, 2, "word bc; word ab; word cab;");
        due("b: the other makes bc", x.game(1), 0);
        due("from c: a", x.game(12), 0);
        due("from ca: nothing wins", x.game(120), NONE);
        due("from a: nothing wins", x.game(10), NONE);
        due("from b: nothing wins", x.game(11), NONE);
        due("from bc: whole", x.game(112), NONE);
        due("from d: begins none", x.game(13), NONE);
        tell(x, 2, "word bc;");
        due("of a smaller book", x.game(12), NONE);
        tell(x, 2, "word ab; word abcd; word jjj; word jjja;");
        due("from abc", x.game(1012), NONE);
        due("from ab: whole, though it begins another", x.game(101), NONE);
        due("from j: j", x.game(19), 9);
        due("from jj", x.game(199), NONE);
        due("from jjj", x.game(1999), NONE);
        due("a, the other makes ab", x.game(1), 0);
        tell(x, 2, "word abcd; word acd; word bdef; word be;");
        // a: the other puts c, I must make acd; or b and then I put c; so he puts c and wins
        due("from a: c wins", x.game(10), 2);
        due("from b: d loses, e is whole", x.game(11), NONE);
        due("from nothing: b", x.game(1), 1);
        due("from ab: c", x.game(101), 2);
        for (int beginning : new int[] {0, -1, 2, 9, 20, 99, 200, 999, 2000, 10000, 10120, MIN, MAX}) {
            due("game(" + beginning + ")", x.game(beginning), NONE);
        }
    }

    private static void undoing() {
        promise = 32;
        DevilsFount x = new DevilsFount();
        due("nothing", x.undo(), false);
        sorts(x, 4, 4, 4);
        tell(x, 1, "from 0 ab; from 1 c;");
        tell(x, 2, "word ba; word ccc;");
        tell(x, 3, "on 1 dare 9; on 1 cast j 3;");
        tell(x, 0, "breaks 1; sets 1000; dares 100 * daring;");
        x.state(9);
        int[][] seen = new int[7][];
        for (int i = 0; i < 7; i++) {
            seen[i] = all(x);
            switch (i) {
                case 0: due("cast", x.act(0, 5), true); break;
                case 1: due("melt", x.act(1, 2), true); break;
                case 2: due("print", x.act(2, 0), true); break;
                case 3: due("dare", x.act(3, 0), true); break;
                case 4: x.days(2); break;
                default: x.days(1); break;
            }
        }
        due("six are kept", x.look(13), 6);
        for (int i = 6; i > 1; i--) {
            due("undo", x.undo(), true);
            if (i == 4) {
                due("of two days the first is left", x.look(8), 1);
                due("undo", x.undo(), true);
            }
            same("after undo " + i, all(x), seen[i]);
        }
        due("the cast and the melt are not kept", x.undo(), false);
        same("so they stay", all(x), seen[2]);
        forgetting();
    }

    private static void same(String call, int[] got, int[] want) {
        for (int i = 0; i < got.length; i++) {
            due(call + ", " + i, got[i], want[i]);
        }
    }

    private static int[] all(DevilsFount x) {
        int[] all = new int[33];
        for (int what = 0; what < 13; what++) {
            all[what] = x.look(what);
        }
        for (int l = 0; l < 10; l++) {
            all[13 + 2 * l] = x.of(l, 0);
            all[14 + 2 * l] = x.of(l, 1);
        }
        return all;
    }

    /** Lines of a long TRAY, and signs, are told otherwise after the image was taken. */
    private static void longImage() {
        DevilsFount x = new DevilsFount();
        tell(x, 1, "from 0 abc;");
        tell(x, 2, "word a;");
        x.sign(1);
        x.days(25);
        int[] tray = trayOf(x);
        due("lines", x.look(9), 50);
        x.image(true);
        for (int d = 0; d < 6; d++) {
            x.undo();
        }
        x.set(0, 1, 1);
        x.days(20);
        due("another line", x.tray(38, 3), 2);
        x.sign(2);
        x.image(false);
        same("a long tray", trayOf(x), tray);
        due("one sign", x.sign(3), 2);
    }

    private static int[] trayOf(DevilsFount x) {
        int[] tray = new int[4 * x.look(9)];
        for (int i = 0; i < tray.length; i++) {
            tray[i] = x.tray(i / 4, i % 4);
        }
        return tray;
    }

    private static DevilsFount withPast() {
        DevilsFount x = new DevilsFount();
        x.act(0, 0);
        x.act(0, 1);
        x.days(1);
        return x;
    }

    private static void forgetting() {
        DevilsFount x = withPast();
        due("three", x.look(13), 3);
        tell(x, 0, "sets 1;");
        x.letter(1);
        x.sign(1);
        x.place(1, 1, 1);
        x.value(1, 1);
        x.image(true);
        feed(x, "sets 3");
        x.end(2);
        x.text(9);
        x.set(0, 0, 100);
        x.act(1, 9);
        x.act(9, 9);
        x.days(0);
        tell(x, 1, "from a");
        tell(x, 2, "word k;");
        tell(x, 3, "on on");
        x.goes(3, 1);
        x.out();
        due("nothing of this forgets", x.look(13), 3);
        due("undo", x.undo(), true);
        due("the law does not go back", x.look(11), 1);
        due("the row does not go back", x.numbers() + x.front(0), 2);
        due("day", x.look(8), 0);
        due("undo", x.undo(), true);
        due("undo", x.undo(), true);
        due("sorts", x.look(0), 0);
        due("undo", x.undo(), false);
        for (int way = 0; way < 6; way++) {
            DevilsFount y = withPast();
            due("image(false) without one is refused", y.image(false), false);
            due("three", y.look(13), 3);
            switch (way) {
                case 0: y.state(0); break;
                case 1: y.set(0, 0, 1); break;
                case 2: y.set(1, 0, 5); break;
                case 3: y.text(1); break;
                case 4: y.text(2); break;
                default: y.text(3); break;
            }
            due("forgotten by way " + way, y.look(13), 0);
            due("undo by way " + way, y.undo(), false);
        }
        DevilsFount z = withPast();
        z.days(60);
        for (int d = 60; d > 54; d--) {
            due("undo", z.undo(), true);
            due("day", z.look(8), d);
        }
        due("undo", z.undo(), false);
    }

    private static void images() {
        promise = 33;
        DevilsFount x = new DevilsFount();
        due("none yet", x.image(false), false);
        sorts(x, 1, 2, 3);
        tell(x, 1, "from 0 ab; from 3 c;");
        tell(x, 2, "word a; word bb;");
        tell(x, 3, "on 1 cast a 5;");
        tell(x, 0, "sets 900; breaks 1;");
        row(x, "1212");
        x.sign(11);
        x.sign(2);
        x.value(1, 7);
        for (int i = 0; i < 4; i++) {
            x.place(4, 4 - i, 1 + i % 2);
        }
        x.state(4711);
        x.days(2);
        int[] then = all(x);
        int[] tray = trayOf(x);
        int square = x.square();
        due("the row stands in the square", square > 0, true);
        due("taken", x.image(true), true);
        due("its taking forgets nothing", x.look(13), 2);
        for (int round = 0; round < 2; round++) {
            x.undo();
            x.undo();
            x.state(99);
            x.set(0, 0, 0);
            x.days(3);
            tell(x, 0, "");
            tell(x, 1, "from 0 a;");
            tell(x, 2, "");
            tell(x, 3, "");
            sorts(x, 9, 9, 9, 9);
            x.set(1, 0, 1);
            row(x, "999");
            x.sign(NONE);
            x.sign(7);
            x.sign(8);
            x.value(1, 0);
            x.place(4, 4, 0);
            x.act(2, 0);
            feed(x, "word a;");
            x.text(1);
            feed(x, "word a;");
            due("gone back", x.image(false), true);
            due("nothing can be undone", x.look(13), 0);
            due("undo", x.undo(), false);
            same("as it was, round " + round, all(x), then);
            same("its tray, round " + round, trayOf(x), tray);
            due("job", x.job(1, 0), 3);
            due("book", x.devils(1, 0), 2);
            due("row", x.numbers(), 5);
            due("pattern", x.pattern(), 1);
            due("values", x.values(0), 14);
            due("square", x.square(), square);
            due("tray", x.tray(0, 1), 0);
            due("fault stays", x.fault(0), 1);
            due("the tape stays", x.text(2), 1);
            x.image(false);
            due("again", x.look(3), 2);
        }
        longImage();
    }

    private static void looks() {
        promise = 34;
        DevilsFount x = new DevilsFount();
        sorts(x, 1, 2, 3, 4);
        tell(x, 1, "from 0 a; from 9 b; from 0 cc;");
        tell(x, 2, "word e; word f;");
        tell(x, 3, "on 5 calm; on 6 calm; on 7 calm; on 8 calm;");
        tell(x, 0, "sets 1000; breaks 1 when length = 2; dares 1; sets 3; sets 4;");
        x.set(1, 0, 7);
        x.state(-5);
        x.days(1);
        int[] want = {8, 3, 5, 2, 7, 0, 2, 1, 1, 3, next(next(-5)), 5, 4, 1};
        for (int what = 0; what < want.length; what++) {
            due("look(" + what + ")", x.look(what), want[what]);
        }
        due("look(14)", x.look(14), NONE - 99999);
        due("look(-1)", x.look(-1), NONE - 99999);
        due("look(min)", x.look(MIN), NONE - 99999);
        due("look(max)", x.look(MAX), NONE - 99999);
    }
}
