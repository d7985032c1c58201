/** Parts 1 and 2 of the document and promises 6 to 9, sentence by sentence: what is told as a text. */
public final class TextBoundaryTest extends Sentences {
    private static final String TRUE = "1=1";

    public static void main(String[] args) {
        draws();
        whatThereIs();
        lawIsSpelt();
        otherTextsAreSpelt();
        bounds();
        keywords();
        numbers();
        signs();
        ints();
        whatCantStand();
        endsOfTexts();
        partsAndWords();
        seventeenthLines();
        openOnes();
        whatTheLawTells();
        facts();
        factsJustThen();
        tape();
        textsTold();
        faultsTold();
        tellAll();
    }

    private static void draws() {
        sentence("STATE of draws (an int, 0 at first);");
        DevilsFount x = new DevilsFount();
        due("look(10)", x.look(10), 0);
        due("state(max)", x.state(MAX), 0);
        due("state(min)", x.state(MIN), MAX);
        due("look(10)", x.look(10), MIN);
        due("state(-1)", x.state(-1), MIN);
        due("state(0)", x.state(0), -1);
        sentence("it becomes 1664525 times itself + 1013904223 (ints, which wrap)");
        int[] states = {0, 1, -1, MAX, MIN};
        int[] then = {1013904223, 1015568748, 1012239698, -1135243950, -1133579425};
        for (int i = 0; i < states.length; i++) {
            x = fount(1);
            jobs(x, "from 0 a;");
            x.state(states[i]);
            x.days(1);
            due("STATE " + states[i] + " then", x.look(10), then[i]);
        }
        sentence("then it is its highest 24 bits (without sign) modulo m.");
        // 1013904223 / 256 = 3960563; without sign -1133579425 is 3161387871, and / 256 12349171
        drawn(0, 563);
        drawn(MIN, 171);
        drawn(before(999), 999);
        drawn(before(0), 0);
    }

    /** A JOB is set if sets is above what is drawn, and only then. */
    private static void drawn(int state, int draw) {
        for (int sets = draw; sets <= draw + 1; sets++) {
            DevilsFount x = fount(1);
            jobs(x, "from 0 a;");
            law(x, "sets " + sets + ";");
            x.state(state);
            due("a DRAW from " + state + " below " + sets, x.days(1), sets - draw);
        }
    }

    private static void whatThereIs() {
        sentence("LETTERS a .. j are numbers 0 .. 9.");
        DevilsFount x = new DevilsFount();
        book(x, "word abcdefgh; word ij;");
        for (int k = 0; k < 8; k++) {
            due("letter " + k, x.devils(0, 10 + k), k);
        }
        due("i", x.devils(1, 10), 8);
        due("j", x.devils(1, 11), 9);
        sentence("SORTS of each 0 .. 99 (0 at first), BROKEN of each (an int, 0 at first).");
        x = new DevilsFount();
        for (int l = 0; l < 10; l++) {
            due("of(" + l + ", 0)", x.of(l, 0), 0);
            due("of(" + l + ", 1)", x.of(l, 1), 0);
        }
        jobs(x, "from 0 aaaaaaaa; from 0 aaaaaaaa;");
        law(x, "breaks 9;");
        x.set(0, 0, 99);
        x.act(2, 0);
        x.set(0, 0, 99);
        x.act(2, 1);
        due("more break than lie there at once", x.of(0, 1), 144);
        due("left of the second 99", x.of(0, 0), 27);
        sentence("A WORD: 1 .. 8 LETTERS in a row.");
        right(1, "from 0 a;", 1);
        right(1, "from 0 jjjjjjjj;", 1);
        faulty(1, "from 0 jjjjjjjjj;", 2, 7);
        faulty(1, "from 0 ;", 1, 7);
        right(2, "word a;", 1);
        right(2, "word jjjjjjjj;", 1);
        faulty(2, "word jjjjjjjjj;", 2, 5);
        faulty(2, "word ;", 1, 5);
        sentence("JOBS 0 .. 15 (as JOBS tells them): PRINTED 0, 1.");
        x = fount(16);
        jobs(x, "from 3a;".repeat(16));
        for (int i = 0; i < 16; i++) {
            due("not PRINTED: " + i, x.job(i, 1), 0);
        }
        due("JOB 16", x.job(16, 1), -2);
        due("JOB 16 can't be PRINTED", x.act(2, 16), false);
        due("JOB 15 can", x.act(2, 15), true);
        due("JOB 15", x.job(15, 1), 1);
        due("JOB 14", x.job(14, 1), 0);
        due("as a set", x.look(2), 32768);
        sentence("THE SMALL BOOK: WORDS 0 .. 15 of the devil (as BOOK tells them).");
        book(x, "word a;".repeat(15) + "word bc;");
        due("WORD 15", x.devils(15, 0), 2);
        due("WORD 0", x.devils(0, 0), 1);
        due("WORD 16", x.devils(16, 0), -2);
        sentence("DARING 0 .. 9 (5 at first), SAID (how many WORDS the devil set, an int, 0 at first), DONE (how many "
            + "JOBS were PRINTED, an int, 0 at first), BLANKS (an int, 0 at first), DAY 0 .. 9999 (0 at first).");
        x = new DevilsFount();
        due("DARING", x.look(4), 5);
        due("SAID", x.look(5), 0);
        due("DONE", x.look(6), 0);
        due("BLANKS", x.look(7), 0);
        due("DAY", x.look(8), 0);
        sentence("TEXTS (empty at first).");
        due("lines of JOBS", x.look(1), 0);
        due("lines of BOOK", x.look(3), 0);
        due("lines of THE LAW", x.look(11), 0);
        due("lines of CHANGES", x.look(12), 0);
        x.set(0, 0, 9);
        x.days(60);
        due("nothing is changed, printed, said", new int[] {x.look(0), x.look(6), x.look(5), x.look(7), x.look(9)},
            9, 0, 0, 0, 0);
    }

    private static void lawIsSpelt() {
        sentence("0 THE LAW = {(sets | breaks | dares) E [when B] ;}.");
        right(0, "", 0);
        right(0, "sets 1;", 1);
        right(0, "breaks 1;", 1);
        right(0, "dares 1;", 1);
        right(0, "sets 1 when 1=1; dares 1; breaks 2 when 1=2;", 3);
        faulty(0, ";", 1, 0);
        faulty(0, "sets;", 1, 4);
        faulty(0, "sets 1 when;", 1, 11);
        faulty(0, "sets 1 1=1;", 1, 7);
        faulty(0, "sets 1 when 1=1 when 1=1;", 1, 16);
        faulty(0, "sets 1 sets 1;", 1, 7);
        faulty(0, "sets 1;;", 1, 7);
        sentence("B = A {or A}. A = C {and C}.");
        due("1=2 or 1=1", so("1=2 or 1=1"), true);
        due("1=1 or 1=2", so("1=1 or 1=2"), true);
        due("1=2 or 1=2", so("1=2 or 1=2"), false);
        due("1=1 and 1=2", so("1=1 and 1=2"), false);
        due("1=2 and 1=1", so("1=2 and 1=1"), false);
        due("1=1 and 1=1", so("1=1 and 1=1"), true);
        due("the last of many or", so("1=2 or ".repeat(40) + TRUE), true);
        due("none of many or", so("1=2 or ".repeat(40) + "1=2"), false);
        due("the last of many and", so("1=1 and ".repeat(40) + "1=2"), false);
        due("all of many and", so("1=1 and ".repeat(40) + TRUE), true);
        due("and is closer, behind", so("1=1 or 1=1 and 1=2"), true);
        due("and is closer, before", so("1=2 and 1=1 or 1=1"), true);
        due("and is closer, between", so("1=2 or 1=1 and 1=2 or 1=2"), false);
        faulty(0, "sets 1 when 1=1 or;", 1, 18);
        faulty(0, "sets 1 when or 1=1;", 1, 12);
        faulty(0, "sets 1 when 1=1 and;", 1, 19);
        faulty(0, "sets 1 when and 1=1;", 1, 12);
        faulty(0, "sets 1 when 1=1 or or 1=1;", 1, 19);
        faulty(0, "sets 1 when 1=1 and or 1=1;", 1, 20);
        sentence("C = E (< | = | >) E | not C | ( B ).");
        String[] signs = {"<", "=", ">"};
        for (int left = 1; left <= 3; left++) {
            for (int s = 0; s < 3; s++) {
                String c = left + signs[s] + "2";
                due(c, so(c), left - 2 == s - 1);
                due("not " + c, so("not " + c), left - 2 != s - 1);
                due("(" + c + ")", so("(" + c + ")"), left - 2 == s - 1);
            }
        }
        due("not is closer than and", so("not 1=2 and 1=2"), false);
        due("not is closer than or", so("not 1=1 or 1=1"), true);
        due("not of all in ( )", so("not (1=2 and 1=2)"), true);
        due("not of all in ( ), or", so("not (1=1 or 1=2)"), false);
        due("not not", so("not not 1=1"), true);
        due("( ) before and", so("(1=1 or 1=1) and 1=2"), false);
        due("( ) behind and", so("1=2 and (1=1 or 1=1)"), false);
        due("E of many parts on both sides", so("1+2*3 = 21/3 and 2-1 < 2*1"), true);
        faulty(0, "sets 1 when 1;", 1, 13);
        faulty(0, "sets 1 when 1=;", 1, 14);
        faulty(0, "sets 1 when =1;", 1, 12);
        faulty(0, "sets 1 when 1=1=1;", 1, 15);
        faulty(0, "sets 1 when 1<=1;", 1, 14);
        faulty(0, "sets 1 when not;", 1, 15);
        faulty(0, "sets 1 when 1 not =1;", 1, 14);
        faulty(0, "sets 1 when ();", 1, 13);
        faulty(0, "sets 1 when (1=1;", 1, 16);
        faulty(0, "sets 1 when 1=1);", 1, 15);
        faulty(0, "sets 1 when (1)=1;", 1, 14);
        sentence("E = T {(+ | -) T}. T = U {* U | / NUMBER}. U = NUMBER | length | least | rest | daring | said | done | waits "
            + "| blanks | day.");
        due("from the left: -", sets("sets 10 - 3 - 2;"), 5);
        due("from the left: - +", sets("sets 10 - 3 + 2;"), 9);
        due("* before -", sets("sets 10 - 3 * 2;"), 4);
        due("/ before +", sets("sets 10 + 9 / 2;"), 14);
        due("from the left: / *", sets("sets 7 / 2 * 2;"), 6);
        due("from the left: * /", sets("sets 7 * 2 / 2;"), 7);
        due("from the left: / /", sets("sets 99 / 7 / 2;"), 7);
        due("many parts", sets("sets 1" + "+1".repeat(190) + ";"), 191);
        faulty(0, "sets -1;", 1, 5);
        faulty(0, "sets +1;", 1, 5);
        faulty(0, "sets 1-;", 1, 7);
        faulty(0, "sets 1+*1;", 1, 7);
        faulty(0, "sets *1;", 1, 5);
        faulty(0, "sets 1*;", 1, 7);
        faulty(0, "sets 1/;", 1, 7);
        faulty(0, "sets 1/day;", 1, 7);
        faulty(0, "sets (1);", 1, 5);
        faulty(0, "sets 1*(1);", 1, 7);
        for (String fact : "length least rest daring said done waits blanks day".split(" ")) {
            right(0, "sets " + fact + "; breaks 1-" + fact + "*" + fact + "/2; dares 1 when " + fact + "=" + fact + ";", 3);
            faulty(0, "sets 1/" + fact + ";", 1, 7);
            faulty(0, "sets " + fact + " " + fact + ";", 1, 6 + fact.length());
        }
        for (String other : "when or and not length least rest daring said done waits blanks day".split(" ")) {
            faulty(0, other + " 1;", 1, 0);
            faulty(0, "sets 1;" + other + " 1;", 1, 7);
        }
        for (String other : "sets breaks dares when or and not".split(" ")) {
            faulty(0, "sets " + other + ";", 1, 5);
            faulty(0, "sets 1*" + other + ";", 1, 7);
            faulty(0, "sets 1 when " + other + (other.equals("not") ? " not" : "") + "=1;", 1, other.equals("not") ? 19 : 12);
        }
    }

    private static void otherTextsAreSpelt() {
        sentence("1 JOBS = {from DAY WORD ;} (told, none is PRINTED; DONE stays.)");
        right(1, "", 0);
        right(1, "from 0 a; from 1 b;", 2);
        faulty(1, ";", 1, 0);
        faulty(1, "from a;", 1, 5);
        faulty(1, "from 0;", 1, 6);
        faulty(1, "from 0 1;", 1, 7);
        faulty(1, "from 0 a b;", 1, 9);
        faulty(1, "from 0 a from 0 a;", 1, 9);
        faulty(1, "0 a;", 1, 0);
        faulty(1, "from 0 a;;", 1, 9);
        DevilsFount x = fount(5);
        jobs(x, "from 0 a; from 0 a;");
        x.days(1);
        due("PRINTED", x.look(2), 3);
        jobs(x, "from 0 a; from 0 a;");
        due("PRINTED when told anew", x.look(2), 0);
        due("DONE", x.look(6), 2);
        x.days(1);
        due("DONE goes on", x.look(6), 4);
        jobs(x, "");
        due("PRINTED of none", x.look(2), 0);
        due("DONE", x.look(6), 4);
        sentence("2 BOOK = {word WORD ;}");
        right(2, "", 0);
        right(2, "word a; word a;", 2);
        x = new DevilsFount();
        book(x, "word abcdefgh; word ij; word a;");
        book(x, "word j; word abc;");
        due("told anew: a shorter one", new int[] {x.devils(0, 0), x.devils(0, 10), x.devils(0, 11)}, 1, 9, NONE);
        due("told anew: a longer one", new int[] {x.devils(1, 0), x.devils(1, 10), x.devils(1, 12)}, 3, 0, 2);
        due("told anew: no third one", x.devils(2, 0), -2);
        faulty(2, ";", 1, 0);
        faulty(2, "word;", 1, 4);
        faulty(2, "word 1 a;", 1, 5);
        faulty(2, "word a b;", 1, 7);
        faulty(2, "word a;;", 1, 7);
        sentence("3 CHANGES = {on DAY (cast LETTER N | melt LETTER N | dare N | calm) ;}");
        right(3, "", 0);
        x = new DevilsFount();
        changes(x, "on 0 dare 7; on 0 cast b 9;");
        changes(x, "on 0 dare 3; on 0 calm;");
        x.days(1);
        due("told anew: calm, nothing cast", new int[] {x.look(4), x.look(0)}, 0, 0);
        changes(x, "on 1 cast j 5; on 1 dare 2; on 1 melt j 1;");
        x.days(1);
        due("told anew: cast and melted", new int[] {x.look(4), x.look(0), x.of(9, 0)}, 2, 4, 4);
        right(3, "on 0 cast a 1; on 0 melt a 1; on 0 dare 1; on 0 calm;", 4);
        faulty(3, ";", 1, 0);
        faulty(3, "on calm;", 1, 3);
        faulty(3, "on 0;", 1, 4);
        faulty(3, "on 0 a;", 1, 5);
        faulty(3, "on 0 on;", 1, 5);
        faulty(3, "on 0 cast;", 1, 9);
        faulty(3, "on 0 cast 1;", 1, 10);
        faulty(3, "on 0 cast a;", 1, 11);
        faulty(3, "on 0 cast a b;", 1, 12);
        faulty(3, "on 0 melt 1 a;", 1, 10);
        faulty(3, "on 0 dare;", 1, 9);
        faulty(3, "on 0 dare a 1;", 1, 10);
        faulty(3, "on 0 calm 1;", 1, 10);
        faulty(3, "on 0 calm calm;", 1, 10);
        faulty(3, "calm;", 1, 0);
        faulty(3, "cast a 1;", 1, 0);
        faulty(3, "cast 0 calm;", 1, 0);
        faulty(3, "melt 0 calm;", 1, 0);
        faulty(3, "dare 0 calm;", 1, 0);
        faulty(3, "calm 0 calm;", 1, 0);
        faulty(3, "on on 0 calm;", 1, 3);
        faulty(3, "0 calm;", 1, 0);
    }

    private static void bounds() {
        sentence("(DAY 0 .. 999, LETTER a WORD of one; cast, melt 1 .. 50, dare 1 .. 9.)");
        right(1, "from 0 a;", 1);
        right(1, "from 999 a;", 1);
        faulty(1, "from 1000 a;", 2, 5);
        faulty(1, "from 9999 a;", 2, 5);
        right(3, "on 0 calm;", 1);
        right(3, "on 999 calm;", 1);
        faulty(3, "on 1000 calm;", 2, 3);
        faulty(3, "on 9999 calm;", 2, 3);
        for (String deed : new String[] {"cast", "melt"}) {
            right(3, "on 0 " + deed + " a 1;", 1);
            right(3, "on 0 " + deed + " j 50;", 1);
            faulty(3, "on 0 " + deed + " a 0;", 2, 12);
            faulty(3, "on 0 " + deed + " a 51;", 2, 12);
            faulty(3, "on 0 " + deed + " a 9999;", 2, 12);
            faulty(3, "on 0 " + deed + " k 1;", 2, 10);
            faulty(3, "on 0 " + deed + " aa 1;", 2, 10);
            faulty(3, "on 0 " + deed + " A 1;", 2, 10);
        }
        right(3, "on 0 dare 1;", 1);
        right(3, "on 0 dare 9;", 1);
        faulty(3, "on 0 dare 0;", 2, 10);
        faulty(3, "on 0 dare 10;", 2, 10);
        sentence("16 lines of each at most.");
        String[] lines = {"sets 1;", "from 0a;", "word a;", "on 0calm;"};
        for (int k = 0; k < 4; k++) {
            for (int n = 0; n <= 16; n += n == 0 ? 1 : n == 1 ? 14 : 1) {
                right(k, lines[k].repeat(n), n);
            }
            faulty(k, lines[k].repeat(17), 3, 16 * lines[k].length());
        }
    }

    private static void keywords() {
        sentence("letters (a .. z, A .. Z) as many as stand together are KEYWORDS (those told here for that text "
            + "alone), else WORDS;");
        faulty(2, "worda;", 1, 0);
        faulty(2, "wor d a;", 1, 0);
        faulty(2, "Word a;", 1, 0);
        faulty(2, "WORD a;", 1, 0);
        faulty(2, "word wor;", 2, 5);
        faulty(2, "word words;", 2, 5);
        faulty(2, "word word;", 1, 5);
        String[] openings = {"sets", "breaks", "dares", "from", "word", "on"};
        int[] texts = {0, 0, 0, 1, 2, 3};
        for (int k = 0; k < 4; k++) {
            for (int i = 0; i < openings.length; i++) {
                faulty(k, openings[i], 1, texts[i] == k ? openings[i].length() : 0);
            }
        }
        String all = "sets breaks dares when or and not length least rest daring said done waits blanks day from word "
            + "on cast melt dare calm";
        for (String keyword : all.split(" ")) {
            // a KEYWORD of that text can't stand there, that of another one is a WORD with a letter beyond j
            faulty(1, "from 0 " + keyword + ";", keyword.equals("from") ? 1 : 2, 7);
            faulty(2, "word " + keyword + ";", keyword.equals("word") ? 1 : 2, 5);
            boolean ofChanges = "on cast melt dare calm".contains(keyword) && !keyword.equals("or");
            faulty(3, "on 0 cast " + keyword + " 1;", ofChanges ? 1 : 2, 10);
        }
        for (char c = 'a'; c <= 'z'; c++) {
            int place = 5;
            faulty(2, "word a" + c + (c <= 'j' ? "" : ";"), c <= 'j' ? 1 : 2, c <= 'j' ? 7 : place);
            faulty(2, "word a" + (char) (c - 32) + ";", 2, place);
        }
        for (char c : new char[] {'a' - 1, 'z' + 1, 'A' - 1, 'Z' + 1}) {
            faulty(2, "word a" + c + ";", 1, 6);
        }
    }

    private static void numbers() {
        sentence("digits as many as stand together NUMBERS of 1 to 4 digits or none;");
        right(1, "from 7 a;", 1);
        right(1, "from 0007 a;", 1);
        faulty(1, "from 00007 a;", 1, 5);
        faulty(1, "from 1 2 a;", 1, 7);
        right(1, "from1a;", 1);
        right(3, "on999cast j50;", 1);
        right(0, "sets 9999;", 1);
        faulty(0, "sets 10000;", 1, 5);
        faulty(0, "sets 00000;", 1, 5);
        faulty(0, "sets 1/10000;", 1, 7);
        right(0, "sets 1/9999;", 1);
        faulty(0, "sets " + "1".repeat(395), 1, 5);
        due("0123", sets("sets 0123;"), 123);
        due("0987", sets("sets 0987;"), 987);
        due("456", sets("sets 456;"), 456);
        due("9999", sets("sets 9999 / 10;"), 999);
    }

    private static void signs() {
        sentence("; + - * / ( ) < = > . Blanks (32, 10) between.");
        for (int c = 0; c < 256; c++) {
            String text = "sets 1" + (char) c + ";";
            if (c >= '0' && c <= '9' || c == 32 || c == 10) {
                right(0, text, 1);
            } else {
                // behind a sign that goes on, or the end of the line, it is the ; that can't stand there
                faulty(0, text, 1, ";+-*/".indexOf(c) >= 0 ? 7 : 6);
            }
        }
        due("each sign", sets("sets 9+8-7*6/5 when (1<2) and 1=1 and 2>1; sets 0;"), 9);
        right(1, "from0a;from0a;", 2);
        right(1, "  \n\nfrom \n 0\n\n \na \n;\n \n", 1);
        right(1, " ", 0);
        right(1, "\n", 0);
        right(1, " \n".repeat(200), 0);
        faulty(1, "from 0 a b;", 1, 9);
        faulty(1, "from 0 a\nb;", 1, 9);
    }

    private static void ints() {
        sentence("Ints, which wrap; / goes towards 0.");
        // 9999 * 9999 * 43 = 4299140043, less 2 to the 32 it is 4172747
        due("* wraps", sets("sets 9999*9999*43/9999;"), 417);
        // 9999 * 9999 * 21 = 2099580021 and 9999 * 4800 = 47995200 are beyond 2147483647 together, by 91573
        due("+ wraps", sets("sets 9999*9999*21 + 9999*4800;"), 0);
        due("+ just not", sets("sets 9999*9999*21 + 9999*4790;"), 1000);
        due("- wraps", sets("sets 0 - 9999*9999*21 - 9999*4800;"), 1000);
        due("- just not", sets("sets 0 - 9999*9999*21 - 9999*4790;"), 0);
        // 9999 * 9999 * 25 wraps to -1795467271: by 9999 -179564.68, and again -17.96
        due("/ goes towards 0", sets("sets 9999*9999*25/9999/9999 + 18;"), 1);
        due("/ goes towards 0 at once", sets("sets 9999*9999*25/9000/9999/19 + 2;"), 1);
        due("7 / 1", sets("sets 7/1;"), 7);
        due("1 / 1", sets("sets 1/1;"), 1);
        due("0 / 1", sets("sets 0/1;"), 0);
        due("7 / 8", sets("sets 7/8;"), 0);
        due("8 / 8", sets("sets 8/8;"), 1);
        due("15 / 8", sets("sets 15/8;"), 1);
        due("a condition wraps, too", so("9999*9999*25 < 0"), true);
        // the least int is no less than itself less 1: 65536 * 32768 = 2 to the 31
        due("the least int", so("8192*8*8192*4 < 0 and 8192*8*8192*4 - 1 > 0"), true);
    }

    private static void whatCantStand() {
        sentence("FAULTS, the first by its place, at one place the least:");
        faulty(2, "word k; word;", 2, 5);
        faulty(2, "word; word k;", 1, 4);
        faulty(1, "from 1000 k;", 2, 5);
        faulty(1, "from 10000 k;", 1, 5);
        faulty(0, "sets 1/0 when (((((((((1=1;", 2, 7);
        faulty(0, "sets 1 when (((((((((1/0=1;", 3, 20);
        faulty(0, "sets 1 when ((((((((1/0=1;", 2, 22);
        faulty(0, "sets 1 when ((((((((1((;", 1, 21);
        faulty(0, "sets 1;".repeat(15) + "sets 1/0;sets 1;", 2, 112);
        faulty(0, "sets 1;".repeat(16) + "sets 1/0;", 3, 112);
        faulty(2, "word a;".repeat(16) + "word k;", 3, 112);
        faulty(2, "word a;".repeat(16) + "k", 1, 112);
        sentence("1 what can't stand there (the end: the text's length; a WORD is none of THE LAW's).");
        for (String odd : new String[] {"!", "\t", "\u0000", "\u007f", "\u0080", "\u00ff", "12345", ";", "+", "-", "*", "/",
            "(", ")", "<", "=", ">"}) {
            // wherever a KEYWORD, a NUMBER, a WORD may stand
            faulty(0, odd, 1, 0);
            faulty(0, "sets " + odd, 1, 5);
            faulty(1, odd, 1, 0);
            faulty(1, "from " + odd, 1, 5);
            faulty(1, "from 0 " + odd, 1, 7);
            faulty(2, odd, 1, 0);
            faulty(2, "word " + odd, 1, 5);
            faulty(3, odd, 1, 0);
            faulty(3, "on " + odd, 1, 3);
            faulty(3, "on 0 " + odd, 1, 5);
            faulty(3, "on 0 cast " + odd, 1, 10);
            faulty(3, "on 0 melt a " + odd, 1, 12);
            faulty(3, "on 0 dare " + odd, 1, 10);
        }
        for (int k = 0; k < 4; k++) {
            faulty(k, ";".repeat(400), 1, 0);
            faulty(k, "!".repeat(400), 1, 0);
            faulty(k, "1".repeat(400), 1, 0);
            faulty(k, "a".repeat(400), 1, 0);
            faulty(k, " ".repeat(399) + ";", 1, 399);
        }
        faulty(0, "sets a;", 1, 5);
        faulty(0, "sets abcdefghij;", 1, 5);
        faulty(0, "sets k;", 1, 5);
        faulty(0, "a", 1, 0);
        faulty(0, "sets 1 a;", 1, 7);
        faulty(0, "sets 1 when a=1;", 1, 12);
        faulty(0, "sets 1;a", 1, 7);
        faulty(0, "sets", 1, 4);
        faulty(0, "sets ", 1, 5);
        faulty(0, "sets   \n", 1, 8);
        faulty(2, "word a", 1, 6);
        faulty(2, "word a ", 1, 7);
        faulty(2, "word a" + " ".repeat(394), 1, 400);
        faulty(0, "sets 1" + "+1".repeat(197), 1, 400);
    }

    /** A text cut off anywhere can't end there; a word that is cut off can't stand where it begins. */
    private static void endsOfTexts() {
        cut(1, "from 12 ab;", new int[] {0, 4});
        cut(2, "word ab;", new int[] {0, 4});
        cut(3, "on 1 cast b 50;", new int[] {0, 2, 5, 9});
        cut(3, "on 1 dare 9;", new int[] {0, 2, 5, 9});
        cut(3, "on 1 calm;", new int[] {0, 2, 5, 9});
        cut(0, "sets 12*done when 1<2;", new int[] {0, 4, 8, 12, 13, 17});
        cut(0, "breaks 12 when not(1<2);", new int[] {0, 6, 10, 14, 15, 18});
        cut(0, "dares 1 when 1=1 and 1=1 or 1=2;", new int[] {0, 5, 8, 12, 17, 20, 25, 27});
    }

    private static void cut(int k, String text, int[] keywords) {
        right(k, text, 1);
        for (int n = 1; n < text.length(); n++) {
            int place = n;
            for (int i = 0; i < keywords.length; i += 2) {
                if (n > keywords[i] && n < keywords[i + 1]) {
                    place = keywords[i];
                }
            }
            faulty(k, text.substring(0, n), 1, place);
        }
    }

    private static void partsAndWords() {
        sentence("2 (at the NUMBER, the WORD) a part by 0;");
        faulty(0, "sets 1/0;", 2, 7);
        faulty(0, "sets 1 /  0000;", 2, 10);
        faulty(0, "sets 1/0", 2, 7);
        faulty(0, "sets 1*2/3/0*4;", 2, 11);
        faulty(0, "sets 1 when 1/0=1;", 2, 14);
        faulty(0, "sets 1 when 1=1/0;", 2, 16);
        right(0, "sets 1/1;", 1);
        right(0, "sets 0/1;", 1);
        right(0, "sets 1/0001;", 1);
        right(0, "sets 0*0;", 1);
        sentence("one beyond its bounds;");
        faulty(1, "from 0 a;from   1000 a;", 2, 16);
        faulty(3, "on 1000", 2, 3);
        faulty(3, "on 0 cast a 51", 2, 12);
        faulty(3, "on 0 melt a 00", 2, 12);
        faulty(3, "on 0 dare 10", 2, 10);
        right(3, "on 0999 cast a 0050; on 0000 dare 0009;", 2);
        sentence("a WORD that has another letter than a .. j, or is too long.");
        for (char c = 'a'; c <= 'z'; c++) {
            if (c <= 'j') {
                right(1, "from 0 " + c + ";", 1);
                right(2, "word " + c + ";", 1);
                right(3, "on 0 melt " + c + " 1;", 1);
            } else {
                faulty(1, "from 0 " + c + ";", 2, 7);
                faulty(2, "word " + c + ";", 2, 5);
                faulty(3, "on 0 melt " + c + " 1;", 2, 10);
            }
            faulty(1, "from 0 " + (char) (c - 32) + ";", 2, 7);
        }
        faulty(1, "from 0 abcdefgk;", 2, 7);
        faulty(1, "from 0 kabcdefg;", 2, 7);
        faulty(1, "from 0 abcdefghi;", 2, 7);
        faulty(2, "word " + "a".repeat(395), 2, 5);
        faulty(2, "word  abcdefgk", 2, 6);
        faulty(3, "on 0 cast ab 0;", 2, 10);
    }

    private static void seventeenthLines() {
        sentence("3 (at its KEYWORD) the 17th line of a text;");
        right(0, "sets 1;".repeat(16) + "  \n", 16);
        for (String opening : new String[] {"sets", "breaks", "dares"}) {
            faulty(0, "sets 1;".repeat(16) + " \n" + opening + " 1;", 3, 114);
            faulty(0, "sets 1;".repeat(16) + opening, 3, 112);
        }
        for (String other : new String[] {"when", "not", "day", "a", "1", ";", "(", "!", "from"}) {
            faulty(0, "sets 1;".repeat(16) + other, 1, 112);
        }
        faulty(1, "from 0a;".repeat(16) + " from", 3, 129);
        faulty(1, "from 0a;".repeat(16) + " fro", 1, 129);
        faulty(2, "word a;".repeat(16) + "word", 3, 112);
        faulty(2, "word a;".repeat(16) + ";", 1, 112);
        faulty(3, "on 0calm;".repeat(16) + "on", 3, 144);
        for (String other : new String[] {"cast", "melt", "dare", "calm", "a", "1", ";"}) {
            faulty(3, "on 0calm;".repeat(16) + other, 1, 144);
        }
    }

    private static void openOnes() {
        sentence("(at it) the 9th ( or not that is open.");
        String before = "sets 1 when ";
        right(0, before + "(".repeat(8) + TRUE + ")".repeat(8) + ";", 1);
        faulty(0, before + "(".repeat(9) + TRUE + ")".repeat(9) + ";", 3, 20);
        right(0, before + "not ".repeat(8) + TRUE + ";", 1);
        faulty(0, before + "not ".repeat(9) + TRUE + ";", 3, 44);
        for (int nots = 0; nots <= 8; nots++) {
            right(0, before + "not ".repeat(nots) + "(".repeat(8 - nots) + TRUE + ")".repeat(8 - nots) + ";", 1);
            faulty(0, before + "not ".repeat(nots) + "(".repeat(8 - nots) + "(1=1", 3, 20 + 3 * nots);
            faulty(0, before + "(".repeat(nots) + "not ".repeat(8 - nots) + "not 1=1", 3, 44 - 3 * nots);
        }
        // what is closed is open no more
        right(0, before + "(1=1) and ".repeat(20) + TRUE + ";", 1);
        right(0, before + "not 1=1 and ".repeat(20) + TRUE + ";", 1);
        right(0, before + "not(1=1) or ".repeat(20) + TRUE + ";", 1);
        right(0, before + "((((((((1=1) or (1=1)) or (1=1)))))) and (1=1));", 1);
        faulty(0, before + "((((((((1=1) or ((1=1)) or (1=1)))))) and (1=1));", 3, 29);
        right(0, before + "(not(not(not(1=1)))) and " + "(".repeat(8) + TRUE + ")".repeat(8) + ";", 1);
        faulty(0, before + "(not(not(not 1=1))) and " + "(".repeat(9), 3, 44);
        right(0, before + "(not 1=1 and not 1=1 and not(not 1=2 or " + "(".repeat(5) + TRUE + ")".repeat(7) + ";", 1);
        faulty(0, before + "(not 1=1 and not 1=1 and not(not 1=2 or " + "(".repeat(6), 3, 57);
        right(0, (before + "(".repeat(8) + TRUE + ")".repeat(8) + ";").repeat(3), 3);
        due("eight ( as one", so("(".repeat(8) + "1=2" + ")".repeat(8)), false);
        due("eight not", so("not ".repeat(8) + "1=2"), false);
        due("seven not", so("not ".repeat(7) + "1=2"), true);
        due("four not and (", so("not(".repeat(4) + "1=2" + ")".repeat(4)), false);
        due("three not and (", so("not(".repeat(3) + "1=2" + ")".repeat(3)), true);
    }

    private static void whatTheLawTells() {
        sentence("E of the first line with that word whose B is so, or that has none");
        due("the first of two", sets("sets 5; sets 6;"), 5);
        due("the first whose B is so", sets("sets 5 when 1=2; sets 6 when 1=1; sets 7;"), 6);
        due("the one without B behind them", sets("sets 5 when 1=2; sets 6 when 1=2; sets 7; sets 8;"), 7);
        due("with that word", sets("breaks 5; dares 6; sets 7;"), 7);
        due("the 16th", sets("sets 1 when 1=2;".repeat(15) + "sets 9;"), 9);
        due("none is so", sets("sets 1 when 1=2;".repeat(16)), 1000);
        sentence("(none: sets: 1000, breaks: 0, dares: 100 times daring), sets, dares held to 0 .. 1000, breaks to "
            + "0 .. 9:");
        DevilsFount x = fount(1);
        jobs(x, "from 0 a;");
        book(x, "word a;");
        for (String none : new String[] {"", "sets 3 when 1=2; breaks 3 when 1=2; dares 3 when 1=2;"}) {
            law(x, none);
            due("sets of none", x.job(0, 3), 1000);
            due("breaks of none", x.job(0, 4), 0);
            for (int daring = 0; daring <= 9; daring++) {
                x.set(1, 0, daring);
                due("dares of none, DARING " + daring, x.devils(0, 1), 100 * daring);
            }
        }
        String[] told = {"0-9999*9999", "0-1", "0", "1", "8", "9", "10", "999", "1000", "1001", "9999*9999"};
        int[] thousand = {0, 0, 0, 1, 8, 9, 10, 999, 1000, 1000, 1000};
        int[] nine = {0, 0, 0, 1, 8, 9, 9, 9, 9, 9, 9};
        for (int i = 0; i < told.length; i++) {
            law(x, "sets " + told[i] + "; breaks " + told[i] + "; dares " + told[i] + ";");
            due("sets " + told[i], x.job(0, 3), thousand[i]);
            due("breaks " + told[i], x.job(0, 4), nine[i]);
            due("dares " + told[i], x.devils(0, 1), thousand[i]);
        }
    }

    /** What a fact is for JOB 0, by sets that tells it. */
    private static void fact(DevilsFount x, String fact, int due) {
        law(x, "sets " + fact + "/10;");
        due(fact + " / 10", x.job(0, 3), due / 10);
        law(x, "sets " + fact + ";");
        due(fact, x.job(0, 3), Math.min(due, 1000));
    }

    private static void facts() {
        sentence("length: how many LETTERS it has;");
        DevilsFount x = new DevilsFount();
        jobs(x, "from 0 a;");
        fact(x, "length", 1);
        jobs(x, "from 0 aaaabbbb; from 0 a;");
        fact(x, "length", 8);
        sentence("least: the least SORTS that lie in the boxes just then of any of its LETTERS;");
        x = fount(99, 98, 5);
        jobs(x, "from 0 aaaaaaaa;");
        fact(x, "least", 99);
        jobs(x, "from 0 ab;");
        fact(x, "least", 98);
        jobs(x, "from 0 ba;");
        fact(x, "least", 98);
        jobs(x, "from 0 aaaaaaac;");
        fact(x, "least", 5);
        jobs(x, "from 0 caaaaaaa;");
        fact(x, "least", 5);
        jobs(x, "from 0 aad;");
        fact(x, "least", 0);
        sentence("rest: all SORTS that lie in the boxes just then;");
        fact(x, "rest", 202);
        fact(fountWithJob(), "rest", 0);
        x = fount(99, 99, 99, 99, 99, 99, 99, 99, 99, 99);
        jobs(x, "from 0 a;");
        fact(x, "rest", 990);
        sentence("daring; said; done;");
        x = fountWithJob();
        fact(x, "daring", 5);
        x.set(1, 0, 0);
        fact(x, "daring", 0);
        x.set(1, 0, 9);
        fact(x, "daring", 9);
        fact(x, "said", 0);
        fact(x, "done", 0);
        x = fount(9);
        jobs(x, "from 0 a; from 0 a;");
        book(x, "word a; word a; word a;");
        law(x, "dares 1000;");
        x.days(4);
        fact(x, "said", 12);
        fact(x, "done", 2);
        sentence("waits: how many JOBS are not PRINTED;");
        fact(x, "waits", 0);
        x = fount(20);
        jobs(x, "from 0a;".repeat(16));
        fact(x, "waits", 16);
        x.act(2, 15);
        fact(x, "waits", 15);
        x.act(2, 0);
        fact(x, "waits", 14);
        sentence("blanks; day.");
        x = fountWithJob();
        book(x, "word b;");
        fact(x, "blanks", 0);
        fact(x, "day", 0);
        x.days(60);
        fact(x, "blanks", 60);
        fact(x, "day", 60);
        book(x, "");
        for (int i = 0; i < 165; i++) {
            x.days(60);
        }
        x.days(39);
        fact(x, "day", 9999);
        fact(x, "blanks", 60);
    }

    private static DevilsFount fountWithJob() {
        DevilsFount x = new DevilsFount();
        jobs(x, "from 0 a;");
        return x;
    }

    private static void factsJustThen() {
        sentence("What THE LAW tells of a WORD for a word:");
        DevilsFount x = fount(4, 5);
        jobs(x, "from 0 aab; from 0 ba;");
        // of four a and five b, two and one are out, then one more of each
        law(x, "breaks least + 0*rest;");
        x.days(1);
        due("least, its own SORTS out", new int[] {x.tray(0, 3), x.tray(1, 3)}, 2, 1);
        x = fount(4, 5);
        jobs(x, "from 0 aab; from 0 ba;");
        law(x, "breaks rest;");
        x.days(1);
        due("rest, its own SORTS out", new int[] {x.tray(0, 3), x.tray(1, 3)}, 6, 4);
        x = fount(4, 5);
        jobs(x, "from 0 aab; from 0 ba;");
        law(x, "breaks done + 3*waits;");
        x.days(1);
        due("done, waits, itself PRINTED", new int[] {x.tray(0, 3), x.tray(1, 3)}, 4, 2);
        x = fount(4, 5);
        jobs(x, "from 0 aab; from 0 ba;");
        law(x, "sets 1000 when rest = 9; sets 1000 when rest = 6 and least = 2; sets 0;");
        due("sets, its own SORTS in", x.days(1), 2);
        x = fount(4, 5);
        jobs(x, "from 0 aab;");
        book(x, "word ab; word b;");
        law(x, "dares 1000 when rest = 6 and least = 2 and said = 0; dares 1000 when rest = 4 and said = 1; dares 0;");
        x.days(1);
        due("dares, its own SORTS in, those before it out", x.look(5), 2);
    }

    private static void tape() {
        sentence("Twenty bytes come behind the TAPE, of each number the highest first: how many it has.");
        DevilsFount x = new DevilsFount();
        due("feed", x.feed(0x776f7264, 0x20616263, 0x64656667, 0x683b776f, 0x7264206a), 20);
        due("feed behind it", x.feed(0x69686766, 0x65646320, 0x3b202020, 0x20202020, 0x20202020), 40);
        due("text(2)", x.text(2), 2);
        for (int k = 0; k < 8; k++) {
            due("letter " + k, x.devils(0, 10 + k), k);
            due("letter " + k, x.devils(1, 10 + k), 9 - k);
        }
        x.feed(0x776f7264, 0x20612020, 0x20202020, 0x20202020, 0x202020ff);
        due("a byte 255", x.text(2), NONE);
        due("its place", x.fault(1), 19);
        sentence("NONE, and nothing comes, if there would be more than 400.");
        for (int n = 20; n <= 400; n += 20) {
            due("feed", x.feed(0x20202020, 0x20202020, 0x20202020, 0x20202020, 0x20202020), n);
        }
        for (int n = 381; n <= 400; n++) {
            DevilsFount y = new DevilsFount();
            feed(y, " ".repeat(400));
            y.end(n);
            due("feed behind " + n, y.feed(-1, -1, -1, -1, -1), NONE);
            due("none came behind " + n, y.end(n + 1), false);
            due("all there are stay of " + n, y.end(n), true);
            due("and are blanks, " + n, y.text(0), 0);
        }
        x.end(380);
        due("feed behind 380", x.feed(0x20202020, 0x20202020, 0x20202020, 0x20202020, -1), 400);
        due("text(0)", x.text(0), NONE);
        due("the last of four hundred", x.fault(1), 396);
        sentence("The TAPE has its first n bytes alone: true; false, changing nothing, if it has not so many, or n is "
            + "below 0.");
        due("end(0) of an empty one", x.end(0), true);
        due("end(1) of an empty one", x.end(1), false);
        due("end(-1) of an empty one", x.end(-1), false);
        feed(x, "word a;word b;wor");
        for (int n : new int[] {18, -1, MIN, MAX, 400, 401}) {
            due("end(" + n + ")", x.end(n), false);
        }
        due("end(17)", x.end(17), true);
        due("feed goes on behind it", x.feed(0x6420633b, 0x20202020, 0x20202020, 0x20202020, 0x20202020), 37);
        due("text(2)", x.text(2), 3);
        feed(x, "word a;word b;");
        due("end(7)", x.end(7), true);
        due("end(8)", x.end(8), false);
        due("text(2)", x.text(2), 1);
        feed(x, "word a;");
        due("end(0)", x.end(0), true);
        due("text(2)", x.text(2), 0);
    }

    private static void textsTold() {
        sentence("The TAPE, empty then (whatever k, with a FAULT too), is TEXT k: how many lines.");
        for (int k = -2; k <= 5; k++) {
            for (String text : new String[] {"", "sets 1;", "from 0 a;", "word a; word b;", "on 0 calm;", "!"}) {
                DevilsFount x = new DevilsFount();
                boolean own = text.startsWith(k == 0 ? "sets" : k == 1 ? "from" : k == 2 ? "word" : k == 3 ? "on" : "-");
                int lines = k < 0 || k > 3 ? NONE : text.isEmpty() ? 0 : own ? k == 2 ? 2 : 1 : NONE;
                due("text(" + k + ") of " + text, tell(x, k, text), lines);
                due("then the TAPE has no byte", x.end(1), false);
                due("feed", x.feed(0, 0, 0, 0, 0), 20);
            }
        }
        sentence("NONE: no such one (fault() tells 0), or a FAULT (the TEXT stays as it was; the TAPE is empty in each "
            + "case).");
        for (int k : new int[] {-1, 4, MIN, MAX}) {
            DevilsFount x = new DevilsFount();
            tell(x, 0, "!");
            due("a FAULT before", x.fault(0), 1);
            due("text(" + k + ")", tell(x, k, "word a;"), NONE);
            due("fault() tells 0", new int[] {x.fault(0), x.fault(1)}, 0, NONE);
            due("the TAPE is empty", x.end(1), false);
            refused(Sentences::busy, "text(" + k + ")", y -> tell(y, k, "word a;"), NONE);
        }
        // each of a long row of texts is the TEXT, however many were told before it, with a FAULT or without
        DevilsFount z = fount(1);
        jobs(z, "from 0 a;");
        for (int i = 0; i < 20; i++) {
            due("a long text", tell(z, 0, "sets " + i + "+0".repeat(100) + " when 0=0;"), 1);
            due("what it tells", z.job(0, 3), i);
            due("one with a FAULT", tell(z, 0, "sets 1 when ((((((((1+1*1 and;"), NONE);
        }
        due("no ( is open any more", tell(z, 0, "sets 1 when ((((((((1=1))))))));"), 1);
        String[] right = {"sets 100; sets 200; dares 100; ", "from 0 b; from 0 c; from 0 d;", "word b; word c; word d;",
            "on 9 calm; on 8 calm; on 7 calm; on 6 calm; on 5 calm;"};
        for (int k = 0; k < 4; k++) {
            int text = k;
            refused(Sentences::busy, "text(" + k + ") with a FAULT", y -> tell(y, text, right[text] + "!"), NONE);
            refused(Sentences::busy, "text(" + k + ") with a FAULT", y -> tell(y, text, "!"), NONE);
            String tooMany = new String[] {"sets 3;", "from 0j;", "word j;", "on 2calm;"}[k].repeat(17);
            refused(Sentences::busy, "text(" + k + ") with a 17th line", y -> tell(y, text, tooMany), NONE);
        }
    }

    private static void faultsTold() {
        sentence("Of the latest text() what 0 the FAULT (0 without one), 1 its place (NONE).");
        DevilsFount x = new DevilsFount();
        due("before any text()", new int[] {x.fault(0), x.fault(1)}, 0, NONE);
        tell(x, 0, "sets 1/0;");
        due("2 at 7", new int[] {x.fault(0), x.fault(1)}, 2, 7);
        x.feed(1, 2, 3, 4, 5);
        x.end(3);
        x.end(-1);
        x.days(1);
        x.undo();
        x.image(true);
        due("feed(), end(), the rest are no text()", new int[] {x.fault(0), x.fault(1)}, 2, 7);
        x.text(1);
        due("1 at 0", new int[] {x.fault(0), x.fault(1)}, 1, 0);
        tell(x, 2, "word a;".repeat(17));
        due("3 at 112", new int[] {x.fault(0), x.fault(1)}, 3, 112);
        x.text(3);
        due("0 without one", new int[] {x.fault(0), x.fault(1)}, 0, NONE);
        sentence("NONE for another what.");
        tell(x, 0, "sets 1/0;");
        for (int what : new int[] {-1, 2, MIN, MAX}) {
            due("fault(" + what + ")", x.fault(what), NONE);
        }
    }
}
