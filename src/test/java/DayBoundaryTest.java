import java.util.function.Supplier;

/** Part 3 of the document and promises 1 to 5, 10 to 13 and 34, sentence by sentence: days, and deeds by hand. */
public final class DayBoundaryTest extends Sentences {
    public static void main(String[] args) {
        newObject();
        changesOfADay();
        changesForIt();
        jobsOfADay();
        draws();
        whatIsSet();
        wants();
        devil();
        devilsDraws();
        blanks();
        givenBack();
        broken();
        byHand();
        printedByHand();
        trayLines();
        fullTray();
        stateAndSet();
        acts();
        days();
        lastDay();
        ofLetters();
        ofJobs();
        ofTheBook();
        ofTheTray();
        looks();
        tellAll();
    }

    private static void newObject() {
        sentence("Empty boxes, and no jobs.");
        DevilsFount x = new DevilsFount();
        due("sorts", sorts(x), 0, 0, 0, 0, 0, 0, 0, 0, 0, 0);
        due("jobs", x.look(1), 0);
        due("job(0, 0)", x.job(0, 0), -2);
        due("days(1)", x.days(1), 0);
        sentence("`NONE = -1`: None.");
        due("NONE", DevilsFount.NONE, -1);
    }

    private static void changesOfADay() {
        sentence("Line by line of CHANGES for it: cast, melt: SORTS N more (99 at most), N less (0 at least);");
        DevilsFount x = fount(98, 99, 50, 49, 48, 0, 97, 0);
        changes(x, "on 0cast a1;on 0cast b1;on 0cast c50;on 0cast d50;on 0cast e50;on 0cast f1;on 0cast g3;on 0cast h50;");
        x.days(1);
        due("cast", sorts(x), 99, 99, 99, 99, 98, 1, 99, 50, 0, 0);
        x = fount(1, 0, 50, 51, 49, 99, 2, 99);
        changes(x, "on 0melt a1;on 0melt b1;on 0melt c50;on 0melt d50;on 0melt e50;on 0melt f1;on 0melt g3;on 0melt h50;");
        x.days(1);
        due("melt", sorts(x), 0, 0, 0, 1, 0, 98, 0, 49, 0, 0);
        due("nothing broke", x.of(2, 1), 0);
        x = fount(60, 60, 10, 10);
        changes(x, "on 0cast a50;on 0melt a20;on 0melt b20;on 0cast b50;on 0cast c50;on 0melt c20;on 0melt d20;on 0cast d50;");
        x.days(1);
        due("line by line", sorts(x), 79, 90, 40, 50, 0, 0, 0, 0, 0, 0);
        x = new DevilsFount();
        changes(x, "on 0cast j7;".repeat(16));
        x.days(1);
        due("sixteen lines for one day", x.of(9, 0), 99);
        sentence("dare, calm: DARING is N, 0.");
        String[] lines = {"on 0 dare 9;", "on 0 dare 1;", "on 0 calm;", "on 0 calm; on 0 dare 7;", "on 0 dare 7; on 0 calm;"};
        int[] daring = {9, 1, 0, 7, 0};
        for (int i = 0; i < lines.length; i++) {
            x = new DevilsFount();
            changes(x, lines[i]);
            x.days(1);
            due("DARING by " + lines[i], x.look(4), daring[i]);
        }
    }

    private static void changesForIt() {
        sentence("(a) Line by line of CHANGES for it:");
        DevilsFount x = fount(10);
        changes(x, "on 1 cast a 5; on 0 cast b 1; on 2 melt a 1; on 999 cast c 9;");
        int[] a = {10, 15, 14, 14};
        for (int day = 0; day < a.length; day++) {
            x.days(1);
            due("a after day " + day, x.of(0, 0), a[day]);
            due("b after day " + day, x.of(1, 0), 1);
        }
        for (int i = 0; i < 16; i++) {
            x.days(60);
        }
        x.days(35);
        due("DAY", x.look(8), 999);
        due("c before 999", x.of(2, 0), 0);
        x.days(1);
        due("c after 999", x.of(2, 0), 9);
        x.days(60);
        due("c later", x.of(2, 0), 9);
        due("a later", x.of(0, 0), 14);
        x = new DevilsFount();
        jobs(x, "from 0 a;");
        changes(x, "on 0 cast a 1;");
        due("what was cast lies in the boxes on that day", x.days(1), 1);
        x = fount(1);
        jobs(x, "from 0 a;");
        changes(x, "on 0 melt a 1;");
        due("what was melted does not", x.days(1), 0);
        x = new DevilsFount();
        book(x, "word a;");
        changes(x, "on 0 dare 9; on 0 cast a 1;");
        x.state(before(899));
        x.days(1);
        due("he dares by that day's DARING", x.look(5), 1);
    }

    private static void jobsOfADay() {
        sentence("JOB by JOB from a DAY not beyond this, not PRINTED:");
        DevilsFount x = fount(9);
        jobs(x, "from 2 a; from 0 a; from 1 a; from 999 a; from 3 a;");
        int[] printed = {2, 6, 7, 23, 23};
        for (int day = 0; day < printed.length; day++) {
            x.days(1);
            due("printed after day " + day, x.look(2), printed[day]);
        }
        due("none is printed twice", x.look(6), 4);
        for (int i = 0; i < 16; i++) {
            x.days(60);
        }
        x.days(34);
        due("DAY", x.look(8), 999);
        due("printed before 999", x.look(2), 23);
        due("printed on 999", x.days(1), 1);
        due("all", x.look(2), 31);
        due("lines", x.look(9), 5);
        x = fount(1);
        jobs(x, "from 0 a; from 0 a;");
        x.days(1);
        due("the first one first", x.look(2), 1);
        x.days(1);
        due("the next one then", x.look(2), 3);
        sentence("has each of its LETTERS as many SORTS in the boxes as it needs:");
        for (int a = 1; a <= 3; a++) {
            for (int b = 0; b <= 1; b++) {
                x = fount(a, b);
                jobs(x, "from 0 aba;");
                due("aba of " + a + " a and " + b + " b", x.days(1), a >= 2 && b == 1 ? 1 : 0);
            }
        }
        x = fount(8);
        jobs(x, "from 0 aaaaaaaa;");
        due("eight of eight", x.days(1), 1);
        x = fount(7);
        jobs(x, "from 0 aaaaaaaa;");
        due("eight of seven", x.days(1), 0);
        x = fount(0, 9);
        jobs(x, "from 0 ab;");
        due("none of a", x.days(1), 0);
    }

    private static void draws() {
        sentence("sets is asked, is it above 0, a DRAW of 1000: below it it is set:");
        int[] sets = {0, 1, 2, 500, 999, 1000};
        for (int likely : sets) {
            for (int draw : new int[] {0, 1, 499, 500, 998, 999}) {
                DevilsFount x = fount(1);
                jobs(x, "from 0 a;");
                law(x, "sets " + likely + ";");
                int state = before(draw);
                x.state(state);
                due("sets " + likely + ", drawn " + draw, x.days(1), draw < likely ? 1 : 0);
                due("STATE then", x.look(10), likely > 0 ? next(state) : state);
                due("lines", x.look(9), draw < likely ? 1 : 0);
            }
        }
        DevilsFount x = fount(1);
        jobs(x, "from 0 b; from 1 a; from 0 aa;");
        law(x, "sets 1;");
        x.days(1);
        due("no DRAW for what lacks, or is of a later DAY", x.look(10), 0);
        x.days(1);
        due("one for what does not", x.look(10), next(0));
        // what is not set leaves its SORTS to the next
        x = fount(1);
        jobs(x, "from 0 ab; from 0 a;");
        x.set(0, 1, 1);
        law(x, "sets 0 when length = 2;");
        due("the second", x.days(1), 1);
        due("as a set", x.look(2), 2);
    }

    private static void whatIsSet() {
        sentence("its SORTS are out of the boxes, PRINTED, DONE one more, then breaks is asked, all that being so");
        DevilsFount x = fount(5, 3);
        jobs(x, "from 0 aab; from 0 aa; from 0 a; from 0 ab; from 0 b; from 0 b; from 0 b;");
        x.days(1);
        due("printed", x.look(2), 1 + 2 + 4 + 16 + 32);
        due("done", x.look(6), 5);
        due("ab lacks an a", new int[] {x.tray(3, 1), x.tray(3, 2), x.tray(3, 3)}, 1, 3, 1);
        due("the third b lacks a b", new int[] {x.tray(6, 1), x.tray(6, 2), x.tray(6, 3)}, 1, 6, 1);
        x = fount(5, 3);
        jobs(x, "from 0 aab; from 0 a;");
        law(x, "breaks least + 3*done when waits = 1; breaks rest;");
        x.days(1);
        due("breaks of the first: least 2, done 1", x.tray(0, 3), 5);
        due("breaks of the second: rest 4", x.tray(1, 3), 4);
        sentence("(so many break of each LETTER as it stands, a LETTER twice is twice; see (d)).");
        x = fount(20, 20, 20);
        jobs(x, "from 0 abac;");
        law(x, "breaks 3;");
        x.days(1);
        due("twice a", sorts(x), 14, 17, 17, 0, 0, 0, 0, 0, 0, 0);
        due("told once", x.tray(0, 3), 3);
        x = fount(80);
        jobs(x, "from 0 aaaaaaaa;");
        law(x, "breaks 9;");
        x.days(1);
        due("eight times a", x.of(0, 0), 8);
    }

    private static void wants() {
        sentence("Has it not: it wants more than there is (on each DAY anew).");
        DevilsFount x = fount(1);
        jobs(x, "from 0 aabb; from 2 c; from 0 a;");
        law(x, "sets 0;");
        x.days(3);
        due("lines", x.look(9), 4);
        due("line 0", line(x, 0), 0, 1, 0, 3);
        due("line 1", line(x, 1), 1, 1, 0, 3);
        due("line 2", line(x, 2), 2, 1, 0, 3);
        due("line 3", line(x, 3), 2, 1, 1, 1);
        x.set(0, 0, 2);
        x.set(0, 1, 1);
        x.days(1);
        due("it lacks but one now", line(x, 4), 3, 1, 0, 1);
        x.set(0, 1, 2);
        x.set(0, 2, 1);
        x.days(1);
        due("it has enough: no line, though it was not set", x.look(9), 6);
    }

    private static void devil() {
        sentence("has each of its LETTERS as many SORTS in the boxes yet as it needs:");
        for (int a = 1; a <= 3; a++) {
            for (int b = 0; b <= 1; b++) {
                DevilsFount x = fount(a, b);
                book(x, "word aba;");
                law(x, "dares 1000;");
                x.days(1);
                due("aba of " + a + " a and " + b + " b", x.look(5), a >= 2 && b == 1 ? 1 : 0);
                due("its line", lastLine(x), a >= 2 && b == 1 ? new int[] {0, 2, 0, 3} : new int[] {0, 3, NONE, 1});
            }
        }
        DevilsFount x = fount(3, 1);
        jobs(x, "from 0 a;");
        book(x, "word aaa; word aa; word ab; word b;");
        law(x, "dares 1000;");
        x.days(1);
        due("of the rest: aa, then b", x.look(5), 2);
        due("line 1", line(x, 1), 0, 2, 1, 2);
        due("line 2", line(x, 2), 0, 2, 3, 1);
        due("no line for what he can't set", x.look(9), 3);
        sentence("below it he sets it: its SORTS are out of the boxes, SAID one more.");
        x = fount(3);
        book(x, "word a; word a; word a; word a;");
        law(x, "dares 1000;");
        x.days(1);
        due("three of four", x.look(5), 3);
        x.days(1);
        due("on each DAY", x.look(5), 6);
        due("they are not out of the shop", x.of(0, 0), 3);
        law(x, "dares 1000 when said < 8;");
        x.set(1, 0, 0);
        x.days(1);
        due("SAID is told one by one", x.look(5), 8);
    }

    private static void devilsDraws() {
        sentence("dares is asked, is it above 0, a DRAW of 1000:");
        for (int likely : new int[] {0, 1, 2, 500, 999, 1000}) {
            for (int draw : new int[] {0, 1, 499, 500, 998, 999}) {
                DevilsFount x = fount(1);
                book(x, "word a;");
                law(x, "dares " + likely + ";");
                int state = before(draw);
                x.state(state);
                x.days(1);
                due("dares " + likely + ", drawn " + draw, x.look(5), draw < likely ? 1 : 0);
                due("STATE then", x.look(10), likely > 0 ? next(state) : state);
            }
        }
        DevilsFount x = fount(1);
        book(x, "word b; word aa;");
        x.days(1);
        due("no DRAW for what he can't set", x.look(10), 0);
        x = fount(1, 1);
        jobs(x, "from 0 a;");
        book(x, "word b; word b;");
        law(x, "dares 1000;");
        x.days(1);
        due("one upstairs, and one for the first b", x.look(10), next(next(0)));
    }

    private static void blanks() {
        sentence("Did he set none at all, though THE SMALL BOOK is not empty: BLANKS one more.");
        DevilsFount x = fount(1);
        x.days(5);
        due("an empty book", x.look(7), 0);
        book(x, "word b;");
        x.days(2);
        due("none can be set", x.look(7), 2);
        due("the line", line(x, 1), 6, 3, NONE, 2);
        book(x, "word a;");
        law(x, "dares 0;");
        x.days(1);
        due("he does not dare", x.look(7), 3);
        book(x, "word b; word a; word b;");
        law(x, "dares 1000;");
        x.days(1);
        due("one of three", x.look(7), 3);
        due("said", x.look(5), 1);
        book(x, "");
        x.days(1);
        due("empty again", x.look(7), 3);
        due("lines", x.look(9), 4);
    }

    private static void givenBack() {
        sentence("(d) By six all is given back: all SORTS lie in the boxes;");
        DevilsFount x = fount(2);
        jobs(x, "from 0 aa; from 0 aa; from 0 aa;");
        due("one on each DAY", x.days(1), 1);
        due("all are there", x.of(0, 0), 2);
        due("one on each DAY", x.days(2), 2);
        x = fount(2);
        jobs(x, "from 0 a; from 0 a;");
        law(x, "breaks 9;");
        due("both are set, nothing is broken before", x.days(1), 2);
        due("broken", x.of(0, 1), 2);
        x = fount(2);
        jobs(x, "from 0 a;");
        book(x, "word a;");
        law(x, "breaks 9; dares 1000;");
        x.days(1);
        due("he sets before anything breaks", x.look(5), 1);
        due("also of what he set breaks", x.of(0, 0), 0);
        sentence("DAY is one more.");
        x.days(1);
        due("DAY", x.look(8), 2);
        x.days(60);
        due("DAY", x.look(8), 62);
    }

    private static void broken() {
        sentence("then JOB by JOB that was set on this DAY, LETTER by LETTER of it as they stand: as many SORTS of that "
            + "LETTER as breaks told, or all there are, if there are fewer, break: SORTS so many less, BROKEN so many "
            + "more.");
        for (int a = 1; a <= 20; a++) {
            for (int breaks = 0; breaks <= 9; breaks += breaks == 1 ? 7 : 1) {
                DevilsFount x = fount(a);
                jobs(x, "from 0 a;");
                law(x, "breaks " + breaks + ";");
                x.days(1);
                int lost = Math.min(a, breaks);
                due(breaks + " of " + a, new int[] {x.of(0, 0), x.of(0, 1), x.tray(0, 3)}, a - lost, lost, breaks);
            }
        }
        DevilsFount x = fount(5, 9);
        jobs(x, "from 0 aab; from 1 bb;");
        law(x, "breaks 3 when length = 3; breaks 1;");
        x.days(1);
        due("three and two of five a", new int[] {x.of(0, 0), x.of(0, 1), x.of(1, 0), x.of(1, 1)}, 0, 5, 6, 3);
        x.set(0, 0, 9);
        x.days(1);
        due("what was set on an earlier DAY breaks no more", new int[] {x.of(0, 0), x.of(0, 1)}, 9, 5);
        due("but what is set today", new int[] {x.of(1, 0), x.of(1, 1)}, 4, 5);
        x = fount(6);
        jobs(x, "from 0 a; from 0 a;");
        law(x, "breaks 5 when done = 1; breaks 4;");
        x.days(1);
        due("each by what it was told", new int[] {x.tray(0, 3), x.tray(1, 3), x.of(0, 0), x.of(0, 1)}, 5, 4, 0, 6);
        x = fount(9);
        jobs(x, "from 0 aa; from 0 b;");
        law(x, "breaks 2;");
        x.days(1);
        due("what was not set does not break", new int[] {x.of(0, 0), x.of(1, 0), x.of(1, 1)}, 5, 0, 0);
    }

    private static void byHand() {
        sentence("By hand: to CAST, to MELT one SORT (below 99; above 0)");
        for (int l = 0; l < 10; l += 9) {
            DevilsFount x = new DevilsFount();
            due("melt of none", x.act(1, l), false);
            due("cast of none", x.act(0, l), true);
            due("then", x.of(l, 0), 1);
            due("melt of one", x.act(1, l), true);
            due("then", x.of(l, 0), 0);
            x.set(0, l, 98);
            due("cast of 98", x.act(0, l), true);
            due("then", x.of(l, 0), 99);
            due("cast of 99", x.act(0, l), false);
            due("then", x.of(l, 0), 99);
            due("melt of 99", x.act(1, l), true);
            due("then", x.of(l, 0), 98);
            due("it is not broken", x.of(l, 1), 0);
            due("no line, no DAY, no DRAW", new int[] {x.look(9), x.look(8), x.look(10)}, 0, 0, 0);
        }
        sentence("to DARE (DARING one more, below 9)");
        DevilsFount x = new DevilsFount();
        x.set(1, 0, 0);
        for (int daring = 1; daring <= 9; daring++) {
            due("dare", x.act(3, 0), true);
            due("then", x.look(4), daring);
        }
        due("dare beyond 9", x.act(3, 0), false);
        due("then", x.look(4), 9);
    }

    private static void printedByHand() {
        sentence("to PRINT a JOB that is not PRINTED, whatever its DAY");
        DevilsFount x = fount(3);
        jobs(x, "from 999 a; from 0 a;");
        due("of a later DAY", x.act(2, 0), true);
        due("PRINTED", x.look(2), 1);
        due("twice", x.act(2, 0), false);
        due("DONE", x.look(6), 1);
        x.days(1);
        due("what a DAY printed", x.act(2, 1), false);
        sentence("(all SORTS lie in the boxes; it lacks none; sets not asked; the rest as in (b), breaks with its SORTS "
            + "out, and at once as in (d))");
        x = fount(4, 1);
        jobs(x, "from 5 aab; from 5 bb; from 5 aab; from 5 aaaa;");
        law(x, "sets 0; breaks least + rest when waits = 3; breaks 9;");
        due("it lacks one", x.act(2, 1), false);
        x.state(7);
        due("sets is not asked", x.act(2, 0), true);
        due("no DRAW", x.look(10), 7);
        due("no DAY", x.look(8), 0);
        due("its line: least 0, rest 2", lastLine(x), 0, 0, 0, 2);
        due("broken at once", new int[] {x.of(0, 0), x.of(0, 1), x.of(1, 0), x.of(1, 1)}, 0, 4, 0, 1);
        due("it lacks all of them now", x.act(2, 2), false);
        x.set(0, 0, 3);
        due("it lacks one of four", x.act(2, 3), false);
        x.set(0, 0, 4);
        due("it lacks none of four", x.act(2, 3), true);
        due("all of them broke", x.of(0, 1), 8);
        x = fount(1);
        jobs(x, "from 0 a; from 0 a;");
        due("all SORTS lie in the boxes", x.act(2, 0), true);
        due("all SORTS lie in the boxes again", x.act(2, 1), true);
        x = fount(1);
        jobs(x, "from 0 a; from 0 a;");
        x.days(1);
        due("behind a DAY, too", x.act(2, 1), true);
        due("its DAY", lastLine(x), 1, 0, 1, 0);
    }

    private static void trayLines() {
        sentence("DAY, what (0 printed, 1 wants, 2 said, 3 a blank), which (the JOB; 2: the WORD; 3: NONE), how much (0: "
            + "breaks; 1: how many SORTS it lacks, all LETTERS together; 2: its length; 3: BLANKS then).");
        DevilsFount x = fount(3, 1);
        jobs(x, "from 0 aabbccjj; from 0 aa; from 1 a;");
        book(x, "word bb; word b; word aaaaaaaa;");
        law(x, "dares 1000; breaks 1;");
        x.days(1);
        due("wants: one b, two c, two j", line(x, 0), 0, 1, 0, 5);
        due("printed", line(x, 1), 0, 0, 1, 1);
        due("said", line(x, 2), 0, 2, 1, 1);
        due("lines", x.look(9), 3);
        x.days(1);
        due("wants: one a more", line(x, 3), 1, 1, 0, 6);
        due("printed", line(x, 4), 1, 0, 2, 1);
        due("said", line(x, 5), 1, 2, 1, 1);
        x.act(1, 1);
        x.days(2);
        due("wants: both b", line(x, 6), 2, 1, 0, 8);
        due("a blank", line(x, 7), 2, 3, NONE, 1);
        due("a blank", line(x, 9), 3, 3, NONE, 2);
        x.set(0, 0, 8);
        x.days(1);
        due("the longest", line(x, 11), 4, 2, 2, 8);
        x = new DevilsFount();
        jobs(x, "from 0 abcdefgh; from 0 aaaaaaaa;");
        x.days(1);
        due("one of each", line(x, 0), 0, 1, 0, 8);
        due("eight of one", line(x, 1), 0, 1, 1, 8);
    }

    private static void fullTray() {
        sentence("THE TRAY (150 lines; no more then):");
        DevilsFount x = new DevilsFount();
        jobs(x, "from 0 a; from 0 b;");
        book(x, "word a;");
        x.days(49);
        due("lines", x.look(9), 147);
        x.days(1);
        due("lines", x.look(9), 150);
        due("the last", lastLine(x), 49, 3, NONE, 50);
        x.days(1);
        due("no more", x.look(9), 150);
        due("the last stays", lastLine(x), 49, 3, NONE, 50);
        due("the first stays", line(x, 0), 0, 1, 0, 1);
        due("BLANKS all the same", x.look(7), 51);
        x.act(0, 0);
        due("printed all the same", x.act(2, 0), true);
        due("no more", x.look(9), 150);
        due("line 150", x.tray(150, 0), -2);
        x = new DevilsFount();
        jobs(x, "from 0 a; from 0 b; from 0 c; from 0 d;");
        x.days(37);
        due("lines", x.look(9), 148);
        x.days(1);
        due("two of four", x.look(9), 150);
        due("the last", lastLine(x), 37, 1, 1, 1);
        x.undo();
        due("gone back", x.look(9), 148);
        x.set(0, 2, 1);
        x.act(2, 2);
        due("there is room again", lastLine(x), 37, 0, 2, 0);
        x.act(0, 0);
        x.act(2, 0);
        due("for two", lastLine(x), 37, 0, 0, 0);
        x.act(0, 1);
        x.act(2, 1);
        due("for no more", lastLine(x), 37, 0, 0, 0);
    }

    private static void stateAndSet() {
        sentence("STATE is told: what it was.");
        DevilsFount x = new DevilsFount();
        int was = 0;
        for (int v : new int[] {1, -1, MAX, MIN, 0, 0, 5}) {
            due("state(" + v + ")", x.state(v), was);
            due("look(10)", x.look(10), v);
            was = v;
        }
        sentence("What 0 SORTS of LETTER who (0 .. 99), 1 DARING (0 .. 9; who not asked): true; false if one can't be, or "
            + "another what.");
        for (int l = 0; l < 10; l++) {
            x = new DevilsFount();
            for (int v : new int[] {99, 0, 1, 98}) {
                due("set(0, " + l + ", " + v + ")", x.set(0, l, v), true);
                due("of", x.of(l, 0), v);
                due("of all", x.look(0), v);
            }
        }
        for (int v : new int[] {9, 0, 8, 1}) {
            for (int who : new int[] {0, 9, -1, 10, MIN, MAX}) {
                due("set(1, " + who + ", " + v + ")", x.set(1, who, v), true);
                due("DARING", x.look(4), v);
            }
        }
        int[][] wrong = {{0, -1, 0}, {0, 10, 0}, {0, 0, -1}, {0, 9, 100}, {0, 0, 100}, {1, 0, -1}, {1, 0, 10}, {-1, 0, 0},
            {2, 0, 0}, {MIN, 0, 0}, {MAX, 0, 0}, {0, MIN, 0}, {0, MAX, 0}, {0, 0, MIN}, {0, 0, MAX}, {1, 0, MIN},
            {1, 0, MAX}};
        for (int[] w : wrong) {
            refusedFalse(Sentences::busy, "set(" + w[0] + ", " + w[1] + ", " + w[2] + ")", y -> y.set(w[0], w[1], w[2]));
        }
    }

    private static void acts() {
        sentence("What 0 to CAST, 1 to MELT one SORT of LETTER who, 2 to PRINT JOB who, 3 to DARE (who not asked): true; "
            + "false if it can't be, or another what.");
        DevilsFount x = fount(0, 1);
        jobs(x, "from 0 b; from 0 b;");
        for (int who : new int[] {0, 9, -1, 10}) {
            due("act(3, " + who + ")", x.act(3, who), true);
        }
        due("DARING", x.look(4), 9);
        due("act(2, 1)", x.act(2, 1), true);
        due("PRINTED", x.look(2), 2);
        Supplier<DevilsFount> full = () -> {
            DevilsFount y = busy();
            y.act(0, 3);
            y.act(0, 3);
            y.act(0, 3);
            y.act(3, 0);
            return y;
        };
        DevilsFount z = full.get();
        due("99 of d, none of e and j, five JOBS, the first of them PRINTED, JOB 4 lacks",
            new int[] {z.of(3, 0), z.of(4, 0), z.of(9, 0), z.look(1), z.job(0, 1), z.job(4, 5), z.look(4)},
            99, 0, 0, 5, 1, 2, 9);
        int[][] wrong = {{0, -1}, {0, 10}, {0, 3}, {1, -1}, {1, 10}, {1, 4}, {1, 9}, {2, -1}, {2, 5}, {2, 15}, {2, 16},
            {2, 0}, {2, 4}, {3, 0}, {-1, 0}, {4, 0}, {MIN, 0}, {MAX, 0}, {0, MIN}, {0, MAX}, {1, MIN}, {1, MAX},
            {2, MIN}, {2, MAX}};
        for (int[] w : wrong) {
            refusedFalse(full, "act(" + w[0] + ", " + w[1] + ")", y -> y.act(w[0], w[1]));
        }
    }

    private static void days() {
        sentence("DAYS go by (1 .. 60): how many JOBS were PRINTED.");
        DevilsFount x = fount(1, 16);
        due("days(1)", x.days(1), 0);
        due("DAY", x.look(8), 1);
        due("days(60)", x.days(60), 0);
        due("DAY", x.look(8), 61);
        due("days(59)", x.days(59), 0);
        due("DAY", x.look(8), 120);
        jobs(x, "from 0 a; from 0 a; from 0 a; from 0 a; from 180 a;");
        due("one on a DAY", x.days(1), 1);
        due("two on two", x.days(2), 2);
        due("one on many, the DAY 180 is not yet", x.days(57), 1);
        due("that DAY", x.days(1), 1);
        due("none then", x.days(60), 0);
        jobs(x, "from 0 b;".repeat(16));
        due("sixteen on a DAY", x.days(1), 16);
        jobs(x, "from 0 a;".repeat(16));
        due("sixteen on sixty", x.days(60), 16);
        x.act(0, 0);
        jobs(x, "from 0 a; from 0 a;");
        x.act(2, 0);
        due("not what was printed by hand", x.days(1), 1);
        sentence("NONE, and nothing is done, if one can't be, or DAY would be above 9999.");
        for (int n : new int[] {0, 61, -1, -60, 62, 1000, MIN, MAX, MAX - 1}) {
            refused(Sentences::busy, "days(" + n + ")", y -> y.days(n), NONE);
        }
    }

    private static DevilsFount old(int day) {
        DevilsFount x = fount(9, 9);
        for (int i = 0; i < 166; i++) {
            x.days(60);
        }
        if (day > 9960) {
            x.days(day - 9960);
        }
        jobs(x, "from 0 ab; from 0 b;");
        book(x, "word a;");
        x.act(1, 0);
        return x;
    }

    private static void lastDay() {
        sentence("DAY would be above 9999.");
        refused(() -> old(9960), "days(40) on 9960", x -> x.days(40), NONE);
        refused(() -> old(9960), "days(60) on 9960", x -> x.days(60), NONE);
        refused(() -> old(9998), "days(2) on 9998", x -> x.days(2), NONE);
        refused(() -> old(9999), "days(1) on 9999", x -> x.days(1), NONE);
        refused(() -> old(9999), "days(max) on 9999", x -> x.days(MAX), NONE);
        DevilsFount x = old(9960);
        due("days(39) on 9960", x.days(39), 2);
        due("DAY", x.look(8), 9999);
        due("the first line's DAY", x.tray(0, 0), 9960);
        x = old(9998);
        due("days(1) on 9998", x.days(1), 2);
        due("DAY", x.look(8), 9999);
        due("by hand on 9999", x.act(0, 0), true);
        due("undo", x.undo() && x.undo(), true);
        due("gone back to 9998", x.look(8), 9998);
    }

    private static void ofLetters() {
        sentence("Of LETTER l what 0 SORTS, 1 BROKEN, 2 LEFT, 3 how often it stands in all JOBS not PRINTED, 4 in all of "
            + "THE SMALL BOOK.");
        DevilsFount x = fount(9, 0, 0, 0, 0, 0, 0, 0, 0, 4);
        due("of(0)", ofAll(x, 0), 9, 0, 9, 0, 0);
        jobs(x, "from 0 aaaaaaaa; from 999 aj; from 500 j;");
        book(x, "word jjjjjjjj; word aj; word j;");
        due("of(0)", ofAll(x, 0), 9, 0, 0, 9, 1);
        due("of(9)", ofAll(x, 9), 4, 0, 2, 2, 10);
        due("of(1)", ofAll(x, 1), 0, 0, 0, 0, 0);
        law(x, "breaks 1;");
        x.act(2, 1);
        due("of(0), one printed", ofAll(x, 0), 8, 1, 0, 8, 1);
        due("of(9), one printed", ofAll(x, 9), 3, 1, 2, 1, 10);
        jobs(x, "");
        book(x, "");
        due("of(0), none told", ofAll(x, 0), 8, 1, 8, 0, 0);
        jobs(x, "from 0 jjjjjjjj;".repeat(16));
        book(x, "word jjjjjjjj;".repeat(16));
        due("of(9), as often as can be", ofAll(x, 9), 3, 1, 0, 128, 128);
        sentence("LEFT: of the SORTS, each JOB not PRINTED once taken out, as far as they go (LETTER by LETTER, 0 at "
            + "least): how many of LETTER l are left.");
        for (int a = 3; a <= 6; a++) {
            x = fount(a, 2);
            jobs(x, "from 0 aabb; from 900 aac;");
            due("left of " + a, x.of(0, 2), Math.max(0, a - 4));
            due("b by itself", x.of(1, 2), 0);
            due("c of none", x.of(2, 2), 0);
            due("d", x.of(3, 2), 0);
        }
        sentence("NONE if there is none such, or another what.");
        for (int what = 0; what < 5; what++) {
            for (int l : new int[] {-1, 10, MIN, MAX}) {
                due("of(" + l + ", " + what + ")", x.of(l, what), NONE);
            }
        }
        for (int what : new int[] {-1, 5, MIN, MAX}) {
            due("of(0, " + what + ")", x.of(0, what), NONE);
        }
    }

    private static int[] ofAll(DevilsFount x, int l) {
        return new int[] {x.of(l, 0), x.of(l, 1), x.of(l, 2), x.of(l, 3), x.of(l, 4)};
    }

    private static void ofJobs() {
        sentence("Of JOB i what 0 its DAY, 1 PRINTED, 2 its length, 3 sets, 4 breaks (all SORTS in the boxes, its own, too, "
            + "PRINTED or not), 5 how many SORTS it lacks (so), 10 + k its LETTER k (k 0 .. 7; NONE: it has none).");
        DevilsFount x = fount(2, 1);
        jobs(x, "from 0 a; from 999 jihgfedc; from 7 aab; from 0 aaa;");
        law(x, "sets 100*least + 10*rest + waits; breaks rest + 5*least; ");
        due("JOB 0", ofJob(x, 0), 0, 0, 1, 234, 9, 0);
        due("JOB 1", ofJob(x, 1), 999, 0, 8, 34, 3, 8);
        due("JOB 2", ofJob(x, 2), 7, 0, 3, 134, 8, 0);
        due("JOB 3", ofJob(x, 3), 0, 0, 3, 234, 9, 1);
        for (int k = 0; k < 8; k++) {
            due("JOB 0, letter " + k, x.job(0, 10 + k), k == 0 ? 0 : NONE);
            due("JOB 1, letter " + k, x.job(1, 10 + k), 9 - k);
            due("JOB 2, letter " + k, x.job(2, 10 + k), k < 2 ? 0 : k == 2 ? 1 : NONE);
        }
        law(x, "sets 100*least + 10*rest + waits; breaks 0;");
        x.act(2, 0);
        due("JOB 0 PRINTED", ofJob(x, 0), 0, 1, 1, 233, 0, 0);
        due("JOB 2 not yet", ofJob(x, 2), 7, 0, 3, 133, 0, 0);
        x.set(0, 0, 0);
        due("JOB 0 PRINTED, and none left", ofJob(x, 0), 0, 1, 1, 13, 0, 1);
        sentence("NONE - 1 if there is none such, or another what.");
        for (int what = -1; what <= 19; what++) {
            if (what < 0 || what > 5 && what < 10 || what > 17) {
                due("job(1, " + what + ")", x.job(1, what), -2);
            }
            for (int i : new int[] {-1, 4, 15, 16, MIN, MAX}) {
                due("job(" + i + ", " + what + ")", x.job(i, what), -2);
            }
        }
        due("job(0, min)", x.job(0, MIN), -2);
        due("job(0, max)", x.job(0, MAX), -2);
        jobs(x, "from 0 a;");
        due("one is told now", x.job(1, 0), -2);
        due("it is still there", x.job(0, 0), 0);
    }

    private static int[] ofJob(DevilsFount x, int i) {
        return new int[] {x.job(i, 0), x.job(i, 1), x.job(i, 2), x.job(i, 3), x.job(i, 4), x.job(i, 5)};
    }

    private static void ofTheBook() {
        sentence("Of WORD i of THE SMALL BOOK what 0 its length, 1 dares (all SORTS in the boxes), 2 whether it could be set "
            + "so (1, 0), 10 + k its LETTER k (k 0 .. 7; NONE: it has none).");
        DevilsFount x = fount(2, 1);
        book(x, "word a; word jihgfedc; word aab; word aaa;");
        law(x, "dares 100*least + 10*rest + length;");
        due("WORD 0", new int[] {x.devils(0, 0), x.devils(0, 1), x.devils(0, 2)}, 1, 231, 1);
        due("WORD 1", new int[] {x.devils(1, 0), x.devils(1, 1), x.devils(1, 2)}, 8, 38, 0);
        due("WORD 2, just enough", new int[] {x.devils(2, 0), x.devils(2, 1), x.devils(2, 2)}, 3, 133, 1);
        due("WORD 3, one too few", new int[] {x.devils(3, 0), x.devils(3, 1), x.devils(3, 2)}, 3, 233, 0);
        for (int k = 0; k < 8; k++) {
            due("WORD 0, letter " + k, x.devils(0, 10 + k), k == 0 ? 0 : NONE);
            due("WORD 1, letter " + k, x.devils(1, 10 + k), 9 - k);
        }
        law(x, "dares 0;");
        due("it could be set, though he does not dare", x.devils(0, 2), 1);
        x.days(1);
        due("all SORTS in the boxes behind a DAY, too", x.devils(2, 2), 1);
        sentence("NONE - 1 if there is none such, or another what. ## Promise 13: tray");
        for (int what = -1; what <= 19; what++) {
            if (what < 0 || what > 2 && what < 10 || what > 17) {
                due("devils(1, " + what + ")", x.devils(1, what), -2);
            }
            for (int i : new int[] {-1, 4, 15, 16, MIN, MAX}) {
                due("devils(" + i + ", " + what + ")", x.devils(i, what), -2);
            }
        }
        due("devils(0, min)", x.devils(0, MIN), -2);
        due("devils(0, max)", x.devils(0, MAX), -2);
        book(x, "word a;");
        due("one is told now", x.devils(1, 0), -2);
        due("it is still there", x.devils(0, 0), 1);
    }

    private static void ofTheTray() {
        sentence("Of line i of THE TRAY what 0 DAY, 1 what, 2 which, 3 how much. NONE - 1 if there is none such, or another "
            + "what.");
        DevilsFount x = fount(1);
        due("an empty one", x.tray(0, 0), -2);
        jobs(x, "from 1 a;");
        law(x, "breaks 7;");
        book(x, "word b;");
        x.days(2);
        due("line 0", line(x, 0), 0, 3, NONE, 1);
        due("line 1", line(x, 1), 1, 0, 0, 7);
        due("line 2", line(x, 2), 1, 3, NONE, 2);
        for (int what = -1; what <= 4; what++) {
            for (int i : new int[] {-1, 3, 4, 149, 150, MIN, MAX}) {
                due("tray(" + i + ", " + what + ")", x.tray(i, what), -2);
            }
        }
        for (int what : new int[] {-1, 4, MIN, MAX}) {
            due("tray(0, " + what + ")", x.tray(0, what), -2);
            due("tray(2, " + what + ")", x.tray(2, what), -2);
        }
        x.undo();
        due("of one DAY less", x.tray(1, 0), -2);
        due("that of the first", line(x, 0), 0, 3, NONE, 1);
    }

    private static void looks() {
        sentence("What 0 SORTS of all, 1 JOBS, 2 JOBS PRINTED (a set), 3 WORDS of THE SMALL BOOK, 4 DARING, 5 SAID, 6 DONE, "
            + "7 BLANKS, 8 DAY, 9 lines of THE TRAY, 10 STATE, 11 lines of THE LAW, 12 of CHANGES, 13 what can be undone.");
        DevilsFount x = fount(99, 99, 99, 99, 99, 99, 99, 99, 99, 99);
        due("SORTS of all", x.look(0), 990);
        jobs(x, "from 0 a;".repeat(16));
        book(x, "word a;".repeat(16));
        changes(x, "on 0calm;".repeat(16));
        law(x, "sets 1000;".repeat(16));
        x.state(MIN);
        x.act(3, 0);
        x.days(1);
        int state = MIN;
        for (int i = 0; i < 16; i++) {
            state = next(state);
        }
        int[] want = {990, 16, 65535, 16, 0, 0, 16, 1, 1, 17, state, 16, 16, 2};
        for (int what = 0; what < want.length; what++) {
            due("look(" + what + ")", x.look(what), want[what]);
        }
        sentence("NONE - 99999 for another what. (STATE as it is.)");
        for (int what : new int[] {-1, 14, MIN, MAX}) {
            due("look(" + what + ")", x.look(what), -100000);
        }
        x.state(-100000);
        due("STATE as it is", x.look(10), -100000);
        x.state(-1);
        due("STATE as it is", x.look(10), -1);
    }
}
