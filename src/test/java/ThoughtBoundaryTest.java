import java.util.TreeSet;

/** Part 4 of the document but UNDO and THE IMAGE, and promises 14 to 31, sentence by sentence: what is thought of. */
public final class ThoughtBoundaryTest extends Sentences {
    public static void main(String[] args) {
        inThought();
        goes();
        out();
        places();
        square();
        squareOfEdges();
        letters();
        numbers();
        signs();
        pattern();
        turned();
        front();
        pieces();
        border();
        mirrors();
        heads();
        whatOfRow();
        seven();
        over();
        ring();
        ringOfHeads();
        ringReadRound();
        columns();
        keys();
        value();
        values();
        game();
        gameOfWords();
        beginnings();
        tellAll();
    }

    // ---- days in thought

    private static void inThought() {
        sentence("4. IN THOUGHT (nothing of it stays; no DRAWS: it is set, he dares, if that is 500 at least).");
        int[] likely = {0, 1, 499, 500, 501, 1000};
        for (int l : likely) {
            DevilsFount x = fount(2);
            jobs(x, "from 0 a;");
            book(x, "word a;");
            law(x, "sets " + l + "; dares 0;");
            x.state(before(999));
            due("goes(1, 0), sets " + l, x.goes(1, 0), l >= 500 ? 1 : 0);
            due("out(), sets " + l, x.out(), l >= 500 ? 1 : NONE);
            law(x, "sets 0; dares " + l + ";");
            due("goes(1, 1), dares " + l, x.goes(1, 1), l >= 500 ? 1 : 0);
            due("goes(1, 3), dares " + l, x.goes(1, 3), l >= 500 ? 0 : 1);
            due("no DRAWS", x.look(10), before(999));
        }
        DevilsFount x = fount(2);
        book(x, "word a;");
        due("by DARING 5", x.goes(1, 1), 1);
        x.set(1, 0, 4);
        due("by DARING 4", x.goes(1, 1), 0);
        for (int what = 0; what < 4; what++) {
            int w = what;
            refused(Sentences::busy, "goes(60, " + what + "), of which nothing stays", y -> y.goes(60, w),
                busy().goes(60, w));
        }
        x = fount(1);
        jobs(x, "from 0 a;");
        x.goes(5, 0);
        x.out();
        due("what was thought of is still to be done", x.act(2, 0), true);
        due("and is done, not thought of", lastLine(x), 0, 0, 0, 0);
        due("DONE", x.look(6), 1);
        x = fount(1);
        jobs(x, "from 0 a;");
        x.goes(5, 0);
        due("a DAY behind it", x.days(1), 1);
        due("has its line and its DRAW", new int[] {x.look(9), x.look(10)}, 1, next(0));
        refused(Sentences::busy, "out(), of which nothing stays", y -> y.out(), busy().out());
    }

    private static void goes() {
        sentence("GOES for n (1 .. 60) DAYS: DONE, SAID, SORTS of all, BLANKS then.");
        DevilsFount x = fount(5, 9);
        jobs(x, "from 0 a; from 1 a; from 59 a; from 60 a; from 3 aaaaaa;");
        book(x, "word aaaa; word j;");
        law(x, "breaks 1;");
        changes(x, "on 0 cast b 1; on 58 melt b 10; on 59 cast b 50; on 60 cast j 50;");
        // on DAY 0 four a lie there when one is out, so he sets aaaa; one breaks, and never again do four lie there
        due("goes(1, .)", goesAll(x, 1), 1, 1, 14, 0);
        due("goes(2, .)", goesAll(x, 2), 2, 1, 13, 1);
        due("goes(3, .)", goesAll(x, 3), 2, 1, 13, 2);
        due("goes(58, .)", goesAll(x, 58), 2, 1, 13, 57);
        due("goes(59, .)", goesAll(x, 59), 2, 1, 3, 58);
        due("goes(60, .)", goesAll(x, 60), 3, 1, 52, 59);
        due("goes(1, .) again", goesAll(x, 1), 1, 1, 14, 0);
        x.days(1);
        // DAY 60, on which he sets j, is the last of them
        due("from DAY 1 on: goes(60, .)", goesAll(x, 60), 4, x.look(5) + 1, 101, x.look(7) + 59);
        sentence("GOES what 0 DONE, 1 SAID, 2 SORTS, 3 BLANKS. NONE if one can't be, or another what.");
        for (int what = -1; what <= 4; what++) {
            for (int n : new int[] {0, 61, -1, MIN, MAX}) {
                due("goes(" + n + ", " + what + ")", x.goes(n, what), NONE);
            }
        }
        for (int what : new int[] {-1, 4, MIN, MAX}) {
            due("goes(1, " + what + ")", x.goes(1, what), NONE);
            due("goes(60, " + what + ")", x.goes(60, what), NONE);
        }
    }

    private static int[] goesAll(DevilsFount x, int n) {
        return new int[] {x.goes(n, 0), x.goes(n, 1), x.goes(n, 2), x.goes(n, 3)};
    }

    private static void out() {
        sentence("OUT: behind how many DAYS all JOBS, those of a later DAY, too, are PRINTED (0: now; none told: 0; NONE: "
            + "not within 60).");
        DevilsFount x = fount(1);
        due("none told", x.out(), 0);
        jobs(x, "from 0 a;");
        due("one", x.out(), 1);
        jobs(x, "from 0a;".repeat(16));
        due("sixteen, one on each DAY", x.out(), 16);
        x.days(15);
        due("the last one", x.out(), 1);
        x.days(1);
        due("now", x.out(), 0);
        jobs(x, "from 17 a; from 16 b;");
        due("one lacks", x.out(), NONE);
        x.set(0, 1, 1);
        due("of a later DAY: 17 is the second from 16 on", x.out(), 2);
        jobs(x, "from 75 a;");
        due("on the 60th", x.out(), 60);
        jobs(x, "from 76 a;");
        due("on the 61st", x.out(), NONE);
        x.act(2, 0);
        due("printed by hand", x.out(), 0);
        jobs(x, "from 0 c;");
        changes(x, "on 75 cast c 1;");
        due("what is cast on the 60th", x.out(), 60);
        changes(x, "on 76 cast c 1;");
        due("what is cast on the 61st", x.out(), NONE);
        jobs(x, "");
        due("none told any more", x.out(), 0);
    }

    // ---- SQUARE

    private static void places() {
        sentence("SQUARE: 5 by 5 places, told letters 0 .. 9 (0 at first):");
        DevilsFount x = withRow("0");
        due("0 at first", x.square(), 25);
        row(x, "1");
        due("none is 1", x.square(), 0);
        int told = 0;
        for (int i = 0; i < 5; i++) {
            for (int j = 0; j < 5; j++) {
                due("place(" + i + ", " + j + ", 1)", x.place(i, j, 1), true);
                told++;
                due("places of 1", x.square(), told);
            }
        }
        due("told anew", x.place(4, 4, 9), true);
        due("places of 1", x.square(), 24);
        row(x, "9");
        due("places of 9", x.square(), 1);
        due("told anew", x.place(4, 4, 0), true);
        due("places of 9", x.square(), 0);
        sentence("A letter of SQUARE at x, y (0 .. 4): true; false if one can't be.");
        int[][] wrong = {{-1, 0, 1}, {5, 0, 1}, {0, -1, 1}, {0, 5, 1}, {0, 0, -1}, {0, 0, 10}, {5, 5, 1}, {-1, 1, 1},
            {4, 5, 1}, {5, 4, 1}, {9, 0, 1}, {MIN, 0, 1}, {MAX, 0, 1}, {0, MIN, 1}, {0, MAX, 1}, {0, 0, MIN}, {0, 0, MAX}};
        for (int[] w : wrong) {
            refusedFalse(Sentences::busy, "place(" + w[0] + ", " + w[1] + ", " + w[2] + ")", y -> y.place(w[0], w[1], w[2]));
        }
        // x is across, y is down: letters told at 1, 0 and 2, 0 stand side by side, and 1, 0 and 0, 2 do not
        x = withRow("12");
        x.place(1, 0, 1);
        x.place(2, 0, 2);
        due("side by side", x.square(), 1);
        x.place(2, 0, 0);
        x.place(0, 2, 2);
        due("not side by side", x.square(), 0);
    }

    private static void square() {
        sentence("in how many ways the row of letters (ROW below) stands in it straight in one of the eight ways");
        for (int size = 2; size <= 5; size++) {
            int ways = 0;
            for (int from = 0; from < 25; from++) {
                for (int way = 0; way < 9; way++) {
                    ways += way == 4 ? 0 : stands(from, way % 3 - 1, way / 3 - 1, size);
                }
            }
            due("ways of " + size, ways, new int[] {0, 0, 144, 96, 56, 24}[size]);
            DevilsFount x = withRow("00000".substring(0, size));
            due("all of them at once", x.square(), ways);
        }
        DevilsFount x = withRow("123");
        x.place(2, 2, 1);
        x.place(3, 2, 2);
        x.place(3, 3, 3);
        due("not straight", x.square(), 0);
        x.place(4, 2, 3);
        due("straight", x.square(), 1);
        x.place(3, 3, 2);
        x.place(4, 4, 3);
        due("straight in two ways", x.square(), 2);
        sentence("(from whichever place, one that reads alike both ways from each end; one letter: once for each place).");
        due("3 once", squareOf("121", "121"), 2);
        due("11", squareOf("11", "110"), 2);
        due("1221", squareOf("1221", "1221"), 2);
        due("121 in 12121", squareOf("121", "12121"), 4);
        due("not alike both ways", squareOf("122", "122"), 1);
        due("one letter", squareOf("1", "10111"), 4);
        sentence("SQUARE (an empty row, one of more than five: 0).");
        x = withRow("");
        due("an empty row", x.square(), 0);
        for (int size = 1; size <= 12; size++) {
            x.letter(0);
            due("a row of " + size, x.square(), size > 5 ? 0 : new int[] {0, 25, 144, 96, 56, 24}[size]);
        }
    }

    /** 1 if a row that is told into the square from a place on, one way, stands there once; 0 if it would go beyond. */
    private static int stands(int from, int dx, int dy, int size) {
        int x0 = from % 5;
        int y0 = from / 5;
        int x1 = x0 + dx * (size - 1);
        int y1 = y0 + dy * (size - 1);
        if (x1 < 0 || x1 > 4 || y1 < 0 || y1 > 4) {
            return 0;
        }
        DevilsFount x = withRow("12345".substring(0, size));
        for (int k = 0; k < size; k++) {
            x.place(x0 + k * dx, y0 + k * dy, k + 1);
        }
        due("from " + x0 + ", " + y0 + " by " + dx + ", " + dy, x.square(), 1);
        return x.square();
    }

    /** Of a row in a square that has some letters in its middle line, 0 in all others. */
    private static int squareOf(String row, String line) {
        DevilsFount x = withRow(row);
        for (int k = 0; k < line.length(); k++) {
            x.place(k, 2, line.charAt(k) - '0');
        }
        return x.square();
    }

    private static void squareOfEdges() {
        sentence("SQUARE: 5 by 5 places");
        for (int y = 0; y < 5; y++) {
            for (int other = 0; other < 5; other++) {
                DevilsFount x = withRow("12");
                x.place(4, y, 1);
                x.place(0, other, 2);
                due("from the end of line " + y + " to the beginning of " + other, x.square(), 0);
                x = withRow("12");
                x.place(y, 4, 1);
                x.place(other, 0, 2);
                due("from the foot of column " + y + " to the head of " + other, x.square(), 0);
            }
        }
    }

    // ---- ROW, NUMBERS, PATTERN

    private static void letters() {
        sentence("ROW: a told row of up to 12 letters 0 .. 9.");
        DevilsFount x = new DevilsFount();
        due("a row at first", x.columns(10, 0), NONE);
        for (int i = 0; i < 12; i++) {
            due("letter " + i, x.letter((i + 7) % 10), i + 1);
        }
        due("the thirteenth", x.letter(0), NONE);
        for (int i = 0; i < 12; i++) {
            due("letter " + i + " of it", x.columns(10, i), (i + 7) % 10);
        }
        due("no thirteenth", x.columns(10, 12), NONE);
        sentence("A letter of ROW (NONE: it is empty then): how many; NONE if one can't be, or there are twelve.");
        due("letter(NONE)", x.letter(NONE), 0);
        due("it is empty", x.columns(10, 0), NONE);
        due("letter(NONE) of an empty one", x.letter(NONE), 0);
        due("letter(0)", x.letter(0), 1);
        due("letter(9)", x.letter(9), 2);
        for (int l : new int[] {10, 11, -2, -3, MIN, MAX}) {
            refused(Sentences::busy, "letter(" + l + ")", y -> y.letter(l), NONE);
            refused(() -> withRow("123456789012"), "letter(" + l + ") behind twelve", y -> y.letter(l), NONE);
        }
        refused(() -> withRow("123456789012"), "letter(0) behind twelve", y -> y.letter(0), NONE);
        refused(() -> withRow("123456789012"), "letter(9) behind twelve", y -> y.letter(9), NONE);
        x = withRow("123456789012");
        due("letter(NONE) behind twelve", x.letter(NONE), 0);
    }

    private static void numbers() {
        sentence("NUMBERS: the row's digits as numbers 1 .. 26 side by side (none begins with 0, 0 alone is none): in how "
            + "many ways (empty: 1).");
        due("empty", withRow("").numbers(), 1);
        for (int a = 0; a <= 9; a++) {
            due("" + a, withRow("" + a).numbers(), a == 0 ? 0 : 1);
            for (int b = 0; b <= 9; b++) {
                int apart = a > 0 && b > 0 ? 1 : 0;
                int together = a * 10 + b >= 10 && a * 10 + b <= 26 ? 1 : 0;
                due("" + a + b, withRow("" + a + b).numbers(), apart + together);
            }
        }
        String[] rows = {"100", "101", "110", "201", "301", "010", "260", "262", "270", "1111", "2626", "2727", "1020",
            "111111111111", "101010101010", "202020202020", "999999999999", "262626262626", "000000000000"};
        int[] ways = {0, 1, 1, 1, 0, 0, 0, 2, 0, 5, 4, 1, 1, 233, 1, 1, 1, 64, 0};
        for (int i = 0; i < rows.length; i++) {
            due(rows[i], withRow(rows[i]).numbers(), ways[i]);
        }
    }

    private static void signs() {
        sentence("A sign of PATTERN (NONE: it is empty then): how many; NONE if one can't be, or there are eight.");
        DevilsFount x = new DevilsFount();
        for (int i = 1; i <= 8; i++) {
            due("sign " + i, x.sign(i == 1 ? 0 : i == 2 ? 11 : 10), i);
        }
        due("the ninth", x.sign(10), NONE);
        due("sign(NONE)", x.sign(NONE), 0);
        due("it is empty", x.pattern(), 1);
        due("sign(NONE) of an empty one", x.sign(NONE), 0);
        due("sign(11)", x.sign(11), 1);
        due("it is not empty", x.sign(0), 2);
        for (int v : new int[] {12, 13, -2, -3, MIN, MAX}) {
            refused(Sentences::busy, "sign(" + v + ")", y -> y.sign(v), NONE);
        }
        for (int v : new int[] {0, 10, 11, 12}) {
            x = withRow("11111111");
            for (int i = 0; i < 8; i++) {
                x.sign(1);
            }
            due("sign(" + v + ") behind eight", x.sign(v), NONE);
            due("the eight fit", x.pattern(), 1);
            x.letter(v > 9 ? 1 : v);
            due("and no ninth", x.pattern(), 0);
        }
    }

    private static int pattern(String row, int... signs) {
        DevilsFount x = withRow(row);
        for (int v : signs) {
            x.sign(v);
        }
        return x.pattern();
    }

    private static void pattern() {
        sentence("PATTERN: a told row of up to 8 signs (0 .. 9 that letter, 10 any one letter, 11 any letters, none, too): "
            + "whether all of the row fits it (1, 0).");
        for (int letter = 0; letter <= 9; letter++) {
            for (int sign = 0; sign <= 11; sign++) {
                due(letter + " by " + sign, pattern("" + letter, sign), sign > 9 || sign == letter ? 1 : 0);
            }
        }
        due("10 of none", pattern("", 10), 0);
        due("11 of none", pattern("", 11), 1);
        due("a letter of none", pattern("", 0), 0);
        due("10 of two", pattern("12", 10), 0);
        due("11 of two", pattern("12", 11), 1);
        due("11 of twelve", pattern("123456789012", 11), 1);
        due("11, 11 of none", pattern("", 11, 11), 1);
        due("11, 11 of twelve", pattern("123456789012", 11, 11), 1);
        due("11 in front, none", pattern("1", 11, 1), 1);
        due("11 in front, some", pattern("231", 11, 1), 1);
        due("11 in front, not to the end", pattern("2312", 11, 1), 0);
        due("11 behind, none", pattern("1", 1, 11), 1);
        due("11 behind, some", pattern("123", 1, 11), 1);
        due("11 behind, not from the beginning", pattern("213", 1, 11), 0);
        due("11 between, none", pattern("12", 1, 11, 2), 1);
        due("11 between, its like, too", pattern("12122", 1, 11, 2), 1);
        due("11 between, one letter can't be both", pattern("1", 1, 11, 1), 0);
        due("not all of the row", pattern("11", 1), 0);
        due("more signs than letters", pattern("1", 1, 1), 0);
        due("eight signs, eleven letters", pattern("10203040506", 1, 11, 10, 0, 11, 5, 11, 6), 1);
        due("eight times 10", pattern("12345678", 10, 10, 10, 10, 10, 10, 10, 10), 1);
        due("eight times 10, seven letters", pattern("1234567", 10, 10, 10, 10, 10, 10, 10, 10), 0);
        due("eight times 10, nine letters", pattern("123456789", 10, 10, 10, 10, 10, 10, 10, 10), 0);
        due("eight times 11", pattern("123456789", 11, 11, 11, 11, 11, 11, 11, 11), 1);
        due("11, the last", pattern("123456789012", 11, 2), 1);
        due("11, not the last", pattern("123456789012", 11, 3), 0);
        due("11, the last, one more", pattern("123456789012", 11, 2, 2), 0);
        due("11, the last, any one more", pattern("123456789012", 11, 2, 10), 0);
        due("11, the last, any more", pattern("123456789012", 11, 2, 11), 1);
        due("seven times 10 and 11, twelve", pattern("123456789012", 10, 10, 10, 10, 10, 10, 10, 11), 1);
        due("seven times 10 and 11, seven", pattern("1234567", 10, 10, 10, 10, 10, 10, 10, 11), 1);
        due("seven times 10 and 11, six", pattern("123456", 10, 10, 10, 10, 10, 10, 10, 11), 0);
        sentence("PATTERN (an empty one fits an empty row alone).");
        due("an empty row", pattern(""), 1);
        due("a row of one", pattern("0"), 0);
        due("a row of twelve", pattern("000000000000"), 0);
    }

    // ---- what is asked of a row

    private static void turned(String row, String last, int place) {
        due("turned(NONE) of " + row + " at once", withRow(row).turned(NONE), place);
        for (int i = 0; i < row.length(); i++) {
            due("turned(" + i + ") of " + row + " at once", withRow(row).turned(i), last.charAt(i) - '0');
        }
        DevilsFount x = withRow(row);
        for (int i = 0; i < row.length(); i++) {
            due("turned(" + i + ") of " + row, x.turned(i), last.charAt(i) - '0');
        }
        due("turned(NONE) of " + row, x.turned(NONE), place);
        for (int i : new int[] {row.length(), row.length() + 1, 12, -2, MIN, MAX}) {
            due("turned(" + i + ") of " + row, x.turned(i), NONE);
        }
    }

    private static void turned() {
        sentence("TURNED: all rows that come of the row by taking its first letter to its end, in order, the least first "
            + "(alike ones as they come): their last letters, from the first row on: the i-th; at which place the row itself "
            + "is (of alike ones the first).");
        turned("7", "7", 0);
        turned("01", "10", 0);
        turned("10", "10", 1);
        turned("11", "11", 0);
        turned("012", "201", 0);
        turned("210", "120", 2);
        turned("1010", "1100", 2);
        turned("0101", "1100", 0);
        turned("102020", "221000", 3);
        turned("888888888888", "888888888888", 0);
        turned("000000000001", "100000000000", 0);
        turned("100000000000", "100000000000", 11);
        turned("109", "190", 1);
        sentence("TURNED: the i-th; at which place (i NONE; an empty row: NONE). NONE, too, if there is none such.");
        turned("", "", NONE);
    }

    private static void front() {
        sentence("FRONT: the letters 0 .. 9 in order; letter by letter of the row: at which place it is, then it goes to the "
            + "front: the i-th place.");
        for (int l = 0; l <= 9; l++) {
            DevilsFount x = withRow("" + l + l);
            due("the first " + l, x.front(0), l);
            due("the second " + l, x.front(1), 0);
        }
        int[] places = {9, 9, 9, 9, 9, 9, 9, 9, 9, 9, 9, 9};
        DevilsFount x = withRow("987654321098");
        for (int i = 0; i < 12; i++) {
            due("front(" + i + ") of 987654321098", x.front(i), places[i]);
        }
        due("front(0) again", x.front(0), 9);
        x = withRow("0123456789");
        for (int i = 0; i < 10; i++) {
            due("front(" + i + ") of 0123456789", x.front(i), i);
        }
        x = withRow("301103");
        places = new int[] {3, 1, 2, 0, 1, 2};
        for (int i = 0; i < 6; i++) {
            due("front(" + i + ") of 301103", x.front(i), places[i]);
        }
        sentence("FRONT: the i-th. NONE if there is none such.");
        for (int i : new int[] {6, 7, 11, 12, -1, -2, MIN, MAX}) {
            due("front(" + i + ") of six", x.front(i), NONE);
        }
        due("front(0) of none", withRow("").front(0), NONE);
        due("front(12) of twelve", withRow("987654321098").front(12), NONE);
    }

    private static void row(int what, String row, int due) {
        due("row(" + what + ") of " + row, withRow(row).row(what), due);
    }

    private static void pieces() {
        sentence("PIECES: how many unlike rows stand in the row side by side (not empty).");
        row(0, "", 0);
        row(0, "0", 1);
        row(0, "00", 2);
        row(0, "01", 3);
        row(0, "010", 5);
        row(0, "0101", 7);
        row(0, "0123456789", 55);
        row(0, "000000000000", 12);
        row(0, "012345678901", 75);
        row(0, "000000000001", 23);
    }

    private static void border() {
        sentence("BORDER: the longest beginning of it, not all, that is its end, too.");
        row(1, "", 0);
        row(1, "0", 0);
        row(1, "00", 1);
        row(1, "01", 0);
        row(1, "010", 1);
        row(1, "0110", 1);
        row(1, "00100", 2);
        row(1, "01010", 3);
        row(1, "012012", 3);
        row(1, "010010", 3);
        row(1, "000000000000", 11);
        row(1, "000000000001", 0);
        row(1, "100000000001", 1);
        row(1, "012345012345", 6);
    }

    private static void mirrors() {
        sentence("MIRRORS: into how few pieces side by side it breaks, each of which reads alike both ways (empty: 0);");
        row(2, "", 0);
        row(2, "0", 1);
        row(2, "00", 1);
        row(2, "01", 2);
        row(2, "010", 1);
        row(2, "0110", 1);
        row(2, "0011", 2);
        row(2, "0120", 4);
        row(2, "0010", 2);
        row(2, "0100", 2);
        row(2, "0101", 2);
        row(2, "0012100", 1);
        row(2, "00122", 3);
        row(2, "012345678901", 12);
        row(2, "012345543210", 1);
        row(2, "000000000000", 1);
        row(2, "010120210202", 4);
    }

    private static void heads() {
        sentence("HEADS: the longest beginning of it that is less than each of its own ends (those from a later place of it "
            + "on; a row is less, if its first unlike letter is, or if it is a beginning of the other one) is taken off, "
            + "again and again: how many.");
        row(3, "", 0);
        row(3, "0", 1);
        row(3, "00", 2);
        row(3, "01", 1);
        row(3, "10", 2);
        row(3, "010", 2);
        row(3, "0100", 3);
        row(3, "001", 1);
        row(3, "0101", 2);
        row(3, "0102", 1);
        row(3, "01011", 1);
        row(3, "102020", 4);
        row(3, "000000000000", 12);
        row(3, "000000000001", 1);
        row(3, "100000000000", 12);
        row(3, "012345678901", 2);
        row(3, "987654321098", 10);
    }

    private static void whatOfRow() {
        sentence("Of the row what 0 PIECES, 1 BORDER, 2 MIRRORS, 3 HEADS (an empty row: 0). NONE for another what.");
        for (String row : new String[] {"", "0", "123456789012"}) {
            DevilsFount x = withRow(row);
            for (int what : new int[] {-1, 4, 5, MIN, MAX}) {
                due("row(" + what + ") of " + row, x.row(what), NONE);
            }
        }
        DevilsFount x = withRow("010");
        due("row(.) of 010", new int[] {x.row(0), x.row(1), x.row(2), x.row(3)}, 5, 1, 1, 2);
        x.letter(NONE);
        due("row(.) of none", new int[] {x.row(0), x.row(1), x.row(2), x.row(3)}, 0, 0, 0, 0);
    }

    // ---- bits

    private static void seven() {
        sentence("SEVEN: four bits w (0 .. 15: bits 3, 2, 1, 0 are d1, d2, d3, d4) as p1 p2 d1 p3 d2 d3 d4, p1 even with d1, "
            + "d2, d4, p2 with d1, d3, d4, p3 with d2, d3, d4: the seven bits as a number, p1 the highest;");
        DevilsFount x = new DevilsFount();
        due("none", x.seven(0, 0), 0b0000000);
        due("d4", x.seven(1, 0), 0b1101001);
        due("d3", x.seven(2, 0), 0b0101010);
        due("d2", x.seven(4, 0), 0b1001100);
        due("d1", x.seven(8, 0), 0b1110000);
        due("all", x.seven(15, 0), 0b1111111);
        for (int w = 0; w < 16; w++) {
            int together = (w & 1) * 0b1101001 ^ (w >> 1 & 1) * 0b0101010 ^ (w >> 2 & 1) * 0b1001100 ^ (w >> 3) * 0b1110000;
            due("seven(" + w + ", 0)", x.seven(w, 0), together);
        }
        sentence("of seven bits (0 .. 127): the four that come of it, the one bit put right which is wrong, if one is; which "
            + "place that is (1 .. 7; 0: none).");
        for (int w = 0; w < 16; w++) {
            int code = x.seven(w, 0);
            due("the four of " + code, x.seven(code, 1), w);
            due("no place of " + code, x.seven(code, 2), 0);
            for (int place = 1; place <= 7; place++) {
                int hurt = code ^ 128 >> place;
                due("the four of " + hurt, x.seven(hurt, 1), w);
                due("the place of " + hurt, x.seven(hurt, 2), place);
            }
        }
        sentence("SEVEN what 0 the seven bits of w, 1 the four of seven bits w, 2 which place. NONE if one can't be, or "
            + "another what.");
        x = new DevilsFount();
        for (int w : new int[] {-1, 16, 17, 127, 128, MIN, MAX}) {
            due("seven(" + w + ", 0)", x.seven(w, 0), NONE);
        }
        for (int w : new int[] {-1, 128, 129, 255, MIN, MAX}) {
            due("seven(" + w + ", 1)", x.seven(w, 1), NONE);
            due("seven(" + w + ", 2)", x.seven(w, 2), NONE);
        }
        due("seven(127, 1)", x.seven(127, 1), 15);
        due("seven(127, 2)", x.seven(127, 2), 0);
        for (int what : new int[] {-1, 3, MIN, MAX}) {
            due("seven(0, " + what + ")", x.seven(0, what), NONE);
            due("seven(15, " + what + ")", x.seven(15, what), NONE);
        }
    }

    private static void over() {
        sentence("OVER: a row of bits v (0 .. 1048575) behind which as many 0 as p has bits less 1, divided by p (2 .. 255) "
            + "bit by bit (less without borrowing): what is left over.");
        DevilsFount x = new DevilsFount();
        for (int v = 0; v < 8; v++) {
            due("over(" + v + ", 2)", x.over(v, 2), 0);
            due("over(" + v + ", 3)", x.over(v, 3), Integer.bitCount(v) % 2);
            due("over(" + v + ", 128)", x.over(v, 128), 0);
            due("over(" + v + ", 8)", x.over(v, 8), 0);
        }
        x = new DevilsFount();
        for (int p = 2; p <= 255; p++) {
            due("over(0, " + p + ")", x.over(0, p), 0);
            // p less its highest bit is what is left of that bit alone
            due("over(1, " + p + ")", x.over(1, p), p - Integer.highestOneBit(p));
        }
        x = new DevilsFount();
        // a row behind which nothing is left over is p itself, shifted
        for (int p = 131; p <= 255; p += 4) {
            due("over(" + p + ", " + p + ")", x.over(p, p), 0);
            due("over(" + p * 4096 + ", " + p + ")", x.over(p * 4096, p), 0);
        }
        due("1101 by 1011", x.over(13, 11), 1);
        due("11010011101100 by 1011", x.over(0b11010011101100, 0b1011), 0b100);
        due("101 by 1011", x.over(5, 11), 4);
        due("over(1048575, 3)", x.over(1048575, 3), 0);
        due("over(1048574, 3)", x.over(1048574, 3), 1);
        due("over(524288, 3)", x.over(524288, 3), 1);
        due("over(1048575, 2)", x.over(1048575, 2), 0);
        // eight times 1 are 255 itself, so of twenty four are left, and seven 0: 11110000000 less 11111111000
        due("over(1048575, 255)", x.over(1048575, 255), 0b1111000);
        due("over(1048575, 254)", x.over(1048575, 254), leftOver(1048575L << 7, 254));
        due("over(524287, 129)", x.over(524287, 129), leftOver(524287L << 7, 129));
        sentence("OVER. NONE if one can't be.");
        for (int v : new int[] {-1, 1048576, 1048577, MIN, MAX}) {
            for (int p : new int[] {2, 3, 255}) {
                due("over(" + v + ", " + p + ")", x.over(v, p), NONE);
            }
        }
        for (int p : new int[] {1, 0, -1, -2, 256, 257, MIN, MAX}) {
            for (int v : new int[] {0, 1, 1048575}) {
                due("over(" + v + ", " + p + ")", x.over(v, p), NONE);
            }
        }
    }

    /** As on paper: p is written under the highest bit that is left, until it goes beyond the lowest. */
    private static int leftOver(long row, int p) {
        long left = row;
        while (Long.highestOneBit(left) >= Integer.highestOneBit(p)) {
            left ^= p * (Long.highestOneBit(left) / Integer.highestOneBit(p));
        }
        return (int) left;
    }

    private static void ring() {
        sentence("RING of n (1 .. 8): the least row of 2 to the n bits in which, read round, each row of n bits stands once");
        String[] rings = {"", "01", "0011", "00010111", "0000100110101111", "00000100011001010011101011011111",
            "0000001000011000101000111001001011001101001111010101110110111111"};
        for (int n = 1; n <= 6; n++) {
            DevilsFount x = new DevilsFount();
            for (int i = 0; i < 1 << n; i++) {
                due("ring(" + n + ", " + i + ", 0)", x.ring(n, i, 0), rings[n].charAt(i) - '0');
            }
        }
        sentence("RING of n: what 0 the i-th bit, 1 how many. NONE if one can't be, or another what.");
        for (int n = 1; n <= 8; n++) {
            DevilsFount x = new DevilsFount();
            int all = 1 << n;
            due("the last of " + n, x.ring(n, all - 1, 0), 1);
            due("behind the last of " + n, x.ring(n, all, 0), NONE);
            due("the first of " + n, x.ring(n, 0, 0), 0);
            for (int what = -1; what <= 2; what++) {
                for (int i : new int[] {-1, all + 1, 257, MIN, MAX}) {
                    due("ring(" + n + ", " + i + ", " + what + ")", x.ring(n, i, what), NONE);
                }
            }
            for (int what : new int[] {-1, 2, MIN, MAX}) {
                due("ring(" + n + ", 0, " + what + ")", x.ring(n, 0, what), NONE);
            }
        }
        DevilsFount x = new DevilsFount();
        for (int n : new int[] {0, 9, -1, 31, 32, 33, MIN, MAX}) {
            for (int what = 0; what <= 1; what++) {
                due("ring(" + n + ", 0, " + what + ")", x.ring(n, 0, what), NONE);
                due("ring(" + n + ", 1, " + what + ")", x.ring(n, 1, what), NONE);
            }
        }
        due("one ring after another: 3", x.ring(3, 3, 0), 1);
        due("one ring after another: 4", x.ring(4, 3, 0), 0);
        due("one ring after another: 3", x.ring(3, 7, 1), 3);
    }

    /** By the document's own words: rows less than each of their own ends, one behind another. */
    private static void ringOfHeads() {
        sentence("(all rows of bits that are less than each of their own ends and of a length that divides n, in order, one "
            + "behind another, are it)");
        for (int n = 1; n <= 8; n++) {
            TreeSet<String> rows = new TreeSet<>();
            for (int size = 1; size <= n; size++) {
                for (int bits = 1 << size; n % size == 0 && bits < 2 << size; bits++) {
                    String row = Integer.toBinaryString(bits).substring(1);
                    if (isLessThanItsEnds(row)) {
                        rows.add(row);
                    }
                }
            }
            String ring = String.join("", rows);
            due("bits of " + n, ring.length(), 1 << n);
            DevilsFount x = new DevilsFount();
            for (int i = 0; i < ring.length(); i++) {
                due("ring(" + n + ", " + i + ", 0)", x.ring(n, i, 0), ring.charAt(i) - '0');
            }
        }
    }

    private static boolean isLessThanItsEnds(String row) {
        for (int from = 1; from < row.length(); from++) {
            if (row.compareTo(row.substring(from)) >= 0) {
                return false;
            }
        }
        return true;
    }

    private static void ringReadRound() {
        sentence("the i-th bit; how many of its first i (0 .. 2 to the n) are 1.");
        for (int n = 1; n <= 8; n++) {
            DevilsFount x = new DevilsFount();
            DevilsFount y = new DevilsFount();
            int all = 1 << n;
            int ones = 0;
            int bits = 0;
            boolean[] seen = new boolean[all];
            for (int i = 0; i < all; i++) {
                due("ring(" + n + ", " + i + ", 1)", y.ring(n, i, 1), ones);
                ones += x.ring(n, i, 0);
            }
            due("ring(" + n + ", " + all + ", 1)", y.ring(n, all, 1), all / 2);
            x = new DevilsFount();
            for (int i = 0; i < all + n - 1; i++) {
                bits = (bits * 2 + x.ring(n, i % all, 0)) % all;
                if (i >= n - 1) {
                    due("row " + bits + " of " + n + " bits once", seen[bits], false);
                    seen[bits] = true;
                }
            }
        }
    }

    // ---- COLUMNS

    private static void columns(String row, int key, String read) {
        DevilsFount x = withRow(row);
        for (int i = 0; i < read.length(); i++) {
            due("columns(" + key + ", " + i + ") of " + row, x.columns(key, i), read.charAt(i) - '0');
        }
        for (int i : new int[] {read.length(), read.length() + 1, 12, -1, MIN, MAX}) {
            due("columns(" + key + ", " + i + ") of " + row, x.columns(key, i), NONE);
        }
    }

    private static void columns() {
        sentence("COLUMNS: the row written into lines of k (1 .. 6; the last one may be shorter), read column by column in the "
            + "order of a told key");
        columns("", 10, "");
        columns("", 1543210, "");
        columns("7", 10, "7");
        columns("7", 1543210, "7");
        columns("123456789012", 10, "123456789012");
        columns("123456", 101, "135246");
        columns("123456", 110, "246135");
        columns("12345", 110, "24135");
        columns("123456", 1201, "361425");
        columns("12345", 1201, "31425");
        columns("1234", 1201, "3142");
        columns("12", 1201, "12");
        columns("1234567", 13210, "4372615");
        columns("123456789012", 142031, "503816149272");
        columns("123456789012", 1543210, "625140392817");
        columns("123456789012", 1012345, "172839405162");
        columns("1234", 1543210, "4321");
        columns("1234", 1045123, "1234");
    }

    private static void keys() {
        sentence("(a row of k digits behind a 1, 0 .. k - 1 each once; the column told first first): the i-th letter.");
        // which keys there are up to 2000, and some of the longer ones
        String keys = " 10 101 110 1012 1021 1102 1120 1201 1210 ";
        DevilsFount x = withRow("555555555555");
        for (int key = 0; key <= 2000; key++) {
            if (key % 400 == 0) {
                x = withRow("555555555555");
            }
            due("columns(" + key + ", 0)", x.columns(key, 0), keys.contains(" " + key + " ") ? 5 : NONE);
        }
        x = withRow("555555555555");
        for (int key : new int[] {10123, 13210, 101234, 143210, 1012345, 1543210, 1250341}) {
            due("columns(" + key + ", 0)", x.columns(key, 0), 5);
        }
        for (int key : new int[] {1, 2, 9, -10, -101, 20, 201, 2012, 11234, 10124, 10122, 10012, 12345, 100123, 101235,
            143211, 201234, 1012346, 1123456, 2012345, 1543211, 1000000, 1999999, 10123456, 16543210, 101234567, 1012345678,
            1234567890, MIN, MAX}) {
            due("columns(" + key + ", 0)", x.columns(key, 0), NONE);
        }
        sentence("COLUMNS by a key (its k digits behind a 1): the i-th. NONE if there is none such, or one can't be.");
        x = withRow("");
        due("of an empty row", x.columns(10, 0), NONE);
        x = withRow("123456789012");
        due("the last of twelve", x.columns(101, 11), 2);
        for (int i : new int[] {12, 13, -1, MIN, MAX}) {
            due("columns(101, " + i + ")", x.columns(101, i), NONE);
            due("columns(10, " + i + ")", x.columns(10, i), NONE);
        }
    }

    // ---- VALUES

    private static void value() {
        sentence("VALUES: told values of letters (0 .. 20; 0 at first):");
        DevilsFount x = withRow("0123456789");
        due("all at first", x.values(0), 0);
        for (int l = 0; l <= 9; l++) {
            due("value(" + l + ", 20)", x.value(l, 20), true);
            due("all then", x.values(0), 20);
            due("value(" + l + ", 1)", x.value(l, 1), true);
            due("all then", x.values(0), 1);
            due("value(" + l + ", 0)", x.value(l, 0), true);
            due("all then", x.values(0), 0);
        }
        sentence("The value of a letter for VALUES: true; false if one can't be.");
        int[][] wrong = {{-1, 1}, {10, 1}, {1, -1}, {1, 21}, {MIN, 1}, {MAX, 1}, {1, MIN}, {1, MAX}};
        for (int[] w : wrong) {
            refusedFalse(Sentences::busy, "value(" + w[0] + ", " + w[1] + ")", y -> y.value(w[0], w[1]));
        }
    }

    private static DevilsFount worth(String row, int... values) {
        DevilsFount x = withRow(row);
        for (int l = 0; l < values.length; l++) {
            x.value(l, values[l]);
        }
        return x;
    }

    private static void values() {
        sentence("of the row: all together; the greatest sum of k (0 .. 12) of its letters side by side, or of fewer; how many "
            + "unlike sums its beginnings have (the empty one and all of it, too).");
        due("all of none", worth("", 5).values(0), 0);
        due("all of one", worth("0", 5).values(0), 5);
        due("all of twelve", worth("000000000000", 20).values(0), 240);
        DevilsFount x = worth("102030102012", 0, 1, 10, 20);
        int[] greatest = {0, 20, 20, 30, 30, 31, 31, 41, 42, 42, 52, 52, 53};
        for (int k = 0; k <= 12; k++) {
            due("values(" + (100 + k) + ")", x.values(100 + k), greatest[k]);
        }
        due("all", x.values(0), 53);
        for (int k = 0; k <= 12; k++) {
            due("of two letters by " + k, worth("12", 0, 3, 4).values(100 + k), k == 0 ? 0 : k == 1 ? 4 : 7);
            due("of none by " + k, worth("", 3).values(100 + k), 0);
            due("of twelve alike by " + k, worth("111111111111", 0, 2).values(100 + k), 2 * k);
            due("of what is worth nothing by " + k, worth("000000000000").values(100 + k), 0);
        }
        due("of none", worth("", 3).values(1), 1);
        due("of one", worth("0", 3).values(1), 2);
        due("of one worth nothing", worth("0").values(1), 1);
        due("of twelve", worth("000000000000", 1).values(1), 13);
        due("the first worth nothing", worth("01", 0, 1).values(1), 2);
        due("the last worth nothing", worth("10", 0, 1).values(1), 2);
        due("of twelve, some worth nothing", x.values(1), 8);
        sentence("VALUES what 0 all, 1 how many sums, 100 + k the greatest by k. NONE for another what.");
        for (int what : new int[] {-1, 2, 3, 99, 113, 200, MIN, MAX}) {
            due("values(" + what + ")", x.values(what), NONE);
            due("values(" + what + ") of none", withRow("").values(what), NONE);
        }
    }

    // ---- GAME

    private static DevilsFount withBook(String words) {
        DevilsFount x = new DevilsFount();
        StringBuilder text = new StringBuilder();
        for (String word : words.split(" ")) {
            text.append("word ").append(word).append(';');
        }
        book(x, text.toString());
        return x;
    }

    private static void game() {
        sentence("GAME of letters with THE SMALL BOOK (its WORDS of up to 4 LETTERS alone):");
        DevilsFount x = withBook("abcd");
        due("abcd: from nothing", x.game(1), 0);
        due("abcd: from a", x.game(10), NONE);
        due("abcd: from ab", x.game(101), 2);
        due("abcd: from abc", x.game(1012), NONE);
        x = withBook("aaa");
        due("aaa: from nothing", x.game(1), NONE);
        due("aaa: from a", x.game(10), 0);
        due("aaa: from aa", x.game(100), NONE);
        for (String longer : new String[] {"abcde", "abcdef", "abcdefg", "abcdefgh"}) {
            x = withBook(longer);
            for (int beginning : new int[] {1, 10, 101, 1012}) {
                due(longer + ": from " + beginning, x.game(beginning), NONE);
            }
            x = withBook(longer + " ab");
            due(longer + " and ab: from nothing", x.game(1), 0);
            due(longer + " and ab: from a", x.game(10), NONE);
            due(longer + " and ab: from ab", x.game(101), NONE);
        }
        x = new DevilsFount();
        due("of an empty book", x.game(1), NONE);
        jobs(x, "from 0 ab;");
        due("not of JOBS", x.game(1), NONE);
        x = withBook("a a a a a a a a a a a a a a a ba");
        due("of its 16th WORD", x.game(1), 1);
    }

    private static void gameOfWords() {
        sentence("two by turns put a LETTER behind those that lie, so that one of these WORDS begins so; who makes a whole WORD "
            + "(also one that begins another one) loses:");
        due("a whole one", withBook("a").game(1), NONE);
        due("the other makes it", withBook("ab").game(1), 0);
        due("j: the other makes it", withBook("jj").game(1), 9);
        DevilsFount x = withBook("ab abc");
        due("from a: ab begins abc, and is whole", x.game(10), NONE);
        due("from nothing: a", x.game(1), 0);
        x = withBook("ab ac acd abce");
        due("from a: ab, ac are whole", x.game(10), NONE);
        x = withBook("a ab abc");
        due("a is whole, though it begins others", x.game(1), NONE);
        x = withBook("abcd acd bdef be");
        due("from a: b is answered by c, so c", x.game(10), 2);
        due("from b: d is answered by e, e is whole", x.game(11), NONE);
        due("from nothing: a is answered by c, so b", x.game(1), 1);
        due("from ab: c", x.game(101), 2);
        sentence("that begins one of them and is none: the least LETTER that wins (NONE: none does).");
        x = withBook("ja ca ba a");
        due("the least of b, c and j", x.game(1), 1);
        x = withBook("ja ca bab a");
        due("b is answered by a", x.game(1), 2);
        x = withBook("dj dia dhaa");
        due("from d: i, as h is answered by a, j is whole", x.game(13), 8);
    }

    private static void beginnings() {
        sentence("GAME from a beginning. NONE, too, if one can't be (it begins no WORD, or is a whole one).");
        DevilsFount x = withBook("aaaa bjjj bjj ccc cccd");
        due("from nothing", x.game(1), 0);
        due("from a", x.game(10), NONE);
        due("from aa", x.game(100), 0);
        due("from aaa: aaaa alone", x.game(1000), NONE);
        due("from b: j", x.game(11), 9);
        due("from c: c", x.game(12), 2);
        due("from bj: bjj is whole", x.game(119), NONE);
        int[] none = {13, 19, 101, 110, 199, 1001, 1010, 1990};
        for (int beginning : none) {
            due("it begins no WORD: " + beginning, x.game(beginning), NONE);
        }
        due("bjj is whole", x.game(1199), NONE);
        due("ccc is whole", x.game(1222), NONE);
        due("aaaa is whole", x.game(10000), NONE);
        sentence("from a told beginning (0 .. 3 LETTERS as digits behind a 1)");
        int[] odd = {0, -1, -10, 2, 9, 20, 21, 99, 200, 999, 2000, 9999, 10001, 11999, 12223, 20000, 100000, MIN, MAX};
        for (int beginning : odd) {
            due("it can't be: " + beginning, x.game(beginning), NONE);
        }
        x = withBook("jjjj aaaa");
        for (int letter = 0; letter <= 9; letter++) {
            int own = letter == 0 || letter == 9 ? letter : NONE;
            due("one LETTER", x.game(10 + letter), NONE);
            due("two LETTERS", x.game(100 + 11 * letter), own);
            due("three LETTERS", x.game(1000 + 111 * letter), NONE);
        }
        due("none", x.game(1), 0);
        x = withBook("a ajj");
        due("a is whole, though aj would win", x.game(10), NONE);
        due("behind it that one may be", withBook("b ajj").game(10), 9);
    }
}
