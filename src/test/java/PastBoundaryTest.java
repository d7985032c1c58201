import java.util.function.Consumer;
import java.util.function.Supplier;

/** UNDO and THE IMAGE of part 4 of the document, and promises 32 and 33, sentence by sentence: what goes back. */
public final class PastBoundaryTest extends Sentences {
    public static void main(String[] args) {
        eachDeed();
        stateAndTray();
        six();
        daysOneByOne();
        asTheyWere();
        forgotten();
        notForgotten();
        refusedDeeds();
        whatStays();
        nothing();
        imageTaken();
        imageOfAll();
        imageWithout();
        moreThanOnce();
        tellAll();
    }

    /** Nothing can be undone, and each deed can be done. */
    private static DevilsFount ready() {
        DevilsFount x = fount(9, 8, 7, 6);
        law(x, "sets 700 when waits > 1; breaks 2 when length > 1; dares 600 when rest > 3;");
        jobs(x, "from 0 ab; from 1 cad; from 9 aabb; from 0 eeeee; from 0 c;");
        book(x, "word ab; word dcb; word e;");
        changes(x, "on 0 cast e 2; on 1 melt d 2; on 2 dare 8; on 0 cast a 50;");
        row(x, "1201");
        x.sign(11);
        x.value(1, 5);
        x.place(1, 1, 1);
        x.state(-77);
        return x;
    }

    private static void goesBack(String deed, Supplier<DevilsFount> made, Consumer<DevilsFount> done, int undos) {
        DevilsFount x = made.get();
        done.accept(x);
        for (int i = 0; i < undos; i++) {
            due("undo() of " + deed, x.undo(), true);
        }
        due("all, after undo() of " + deed, all(x), all(made.get()));
    }

    private static void eachDeed() {
        sentence("UNDO: the latest DAY, CASTING, MELTING, PRINTING, DARING by hand not undone yet goes back");
        goesBack("a DAY", PastBoundaryTest::ready, x -> x.days(1), 1);
        goesBack("a CASTING", PastBoundaryTest::ready, x -> x.act(0, 9), 1);
        goesBack("a MELTING", PastBoundaryTest::ready, x -> x.act(1, 0), 1);
        goesBack("a PRINTING", PastBoundaryTest::ready, x -> x.act(2, 1), 1);
        goesBack("a DARING", PastBoundaryTest::ready, x -> x.act(3, 0), 1);
        goesBack("a DAY behind others", Sentences::busy, x -> x.days(1), 1);
        goesBack("one of each", PastBoundaryTest::ready, x -> {
            x.act(3, 0);
            x.days(1);
            x.act(1, 0);
            x.act(2, 2);
            x.act(0, 0);
        }, 5);
        DevilsFount x = fount(5);
        x.act(0, 0);
        x.act(1, 0);
        x.act(1, 0);
        x.act(3, 0);
        due("the latest first", x.undo(), true);
        due("DARING", new int[] {x.look(4), x.of(0, 0), x.look(13)}, 5, 4, 3);
        x.undo();
        due("one MELTING", new int[] {x.of(0, 0), x.look(13)}, 5, 2);
        x.undo();
        due("the other", new int[] {x.of(0, 0), x.look(13)}, 6, 1);
        x.undo();
        due("the CASTING", new int[] {x.of(0, 0), x.look(13)}, 5, 0);
    }

    private static void stateAndTray() {
        sentence("goes back (STATE, THE TRAY, too)");
        DevilsFount x = ready();
        x.days(1);
        int lines = x.look(9);
        due("lines on that DAY", lines > 2, true);
        due("DRAWS on that DAY", x.look(10) != -77, true);
        x.undo();
        due("STATE", x.look(10), -77);
        due("lines", x.look(9), 0);
        due("line 0", x.tray(0, 0), -2);
        x.act(2, 0);
        due("a line by hand", line(x, 0), 0, 0, 0, 2);
        x.undo();
        due("no line", x.look(9), 0);
        x.days(1);
        DevilsFount y = ready();
        y.days(1);
        due("the same DAY once more", all(x), all(y));
    }

    private static void six() {
        sentence("6 are kept;");
        for (int deeds = 0; deeds <= 14; deeds++) {
            DevilsFount x = new DevilsFount();
            for (int i = 0; i < deeds; i++) {
                due("cast", x.act(0, 0), true);
                due("kept", x.look(13), Math.min(6, i + 1));
            }
            for (int i = 0; i < 6 && i < deeds; i++) {
                due("undo() " + i + " of " + deeds, x.undo(), true);
                due("cast", x.of(0, 0), deeds - i - 1);
                due("kept", x.look(13), Math.min(6, deeds) - i - 1);
            }
            due("undo() of " + deeds + " beyond six", x.undo(), false);
            due("cast", x.of(0, 0), Math.max(0, deeds - 6));
            due("kept", x.look(13), 0);
        }
        for (int back = 0; back <= 6; back++) {
            for (int more = 0; more <= 8; more++) {
                DevilsFount x = new DevilsFount();
                deeds(x, 9);
                for (int i = 0; i < back; i++) {
                    x.undo();
                }
                deeds(x, more);
                int kept = Math.min(6, 6 - back + more);
                due("kept", x.look(13), kept);
                for (int i = 0; i < kept; i++) {
                    due("undo()", x.undo(), true);
                }
                due("undo() beyond", x.undo(), false);
                due("cast", x.of(0, 0), 9 - back + more - kept);
            }
        }
    }

    private static void deeds(DevilsFount x, int n) {
        for (int i = 0; i < n; i++) {
            x.act(0, 0);
        }
    }

    private static void daysOneByOne() {
        sentence("the latest DAY");
        int[] many = {1, 2, 5, 6, 7, 60};
        for (int n : many) {
            DevilsFount x = ready();
            x.days(n);
            due("kept of " + n, x.look(13), Math.min(6, n));
            for (int i = 1; i <= 6 && i <= n; i++) {
                due("undo() of a DAY", x.undo(), true);
                due("DAY", x.look(8), n - i);
            }
            due("undo() beyond", x.undo(), false);
            DevilsFount y = ready();
            if (n > 6) {
                y.days(n - 6);
            }
            due("DAY", x.look(8), Math.max(0, n - 6));
            due("STATE", x.look(10), y.look(10));
            due("lines", x.look(9), y.look(9));
            due("sorts", sorts(x), sorts(y));
        }
    }

    /** What is kept is not changed by what is done later. */
    private static void asTheyWere() {
        sentence("not undone yet goes back");
        for (int deeds = 1; deeds <= 4; deeds++) {
            int n = deeds;
            Supplier<DevilsFount> made = () -> {
                DevilsFount x = ready();
                x.act(3, 0);
                x.days(1);
                return x;
            };
            goesBack(n + " DAYS", made, x -> {
                x.days(n);
                for (int i = 0; i < n; i++) {
                    x.undo();
                }
                x.days(1);
                x.act(0, 7);
                x.act(1, 7);
                x.act(0, 8);
            }, 4);
        }
    }

    private static void forgotten() {
        sentence("whatever else is told but THE LAW and what is told for thought (SQUARE, ROW, PATTERN, VALUES) (feed(), "
            + "end(), what is refused, a text with a FAULT, the taking of THE IMAGE do not) forgets them.");
        forgets("state()", x -> x.state(5));
        forgets("state(), as it was", x -> x.state(x.look(10)));
        forgets("set(0, ..)", x -> x.set(0, 4, 4));
        forgets("set(0, ..), as it was", x -> x.set(0, 4, x.of(4, 0)));
        forgets("set(1, ..)", x -> x.set(1, 0, 3));
        forgets("set(1, ..), as it was", x -> x.set(1, 0, x.look(4)));
        forgets("JOBS", x -> tell(x, 1, "from 0 a;"));
        forgets("JOBS, none", x -> x.text(1));
        forgets("THE SMALL BOOK", x -> tell(x, 2, "word a;"));
        forgets("THE SMALL BOOK, none", x -> x.text(2));
        forgets("CHANGES", x -> tell(x, 3, "on 0 calm;"));
        forgets("CHANGES, none", x -> x.text(3));
    }

    private static void forgets(String call, Consumer<DevilsFount> told) {
        DevilsFount x = busy();
        int before = x.look(8);
        told.accept(x);
        due("look(13) after " + call, x.look(13), 0);
        due("undo() after " + call, x.undo(), false);
        due("DAY after " + call, x.look(8), before);
        x.act(0, 9);
        due("what is done then can be undone", x.look(13), 1);
        due("undo()", x.undo(), true);
        due("undo()", x.undo(), false);
    }

    private static void notForgotten() {
        sentence("(feed(), end(), what is refused, a text with a FAULT, the taking of THE IMAGE do not)");
        keeps("THE LAW", x -> tell(x, 0, "sets 3;"));
        keeps("THE LAW, none", x -> x.text(0));
        keeps("SQUARE", x -> x.place(0, 0, 3));
        keeps("ROW", x -> x.letter(3));
        keeps("an empty ROW", x -> x.letter(NONE));
        keeps("PATTERN", x -> x.sign(3));
        keeps("an empty PATTERN", x -> x.sign(NONE));
        keeps("VALUES", x -> x.value(0, 20));
        keeps("feed()", x -> x.feed(1, 2, 3, 4, 5));
        keeps("end()", x -> x.end(0));
        keeps("end() refused", x -> x.end(1));
        keeps("THE LAW with a FAULT", x -> tell(x, 0, "!"));
        keeps("JOBS with a FAULT", x -> tell(x, 1, "from 0 a; from"));
        keeps("THE SMALL BOOK with a FAULT", x -> tell(x, 2, "word k;"));
        keeps("CHANGES with a FAULT", x -> tell(x, 3, "on 0calm;".repeat(17)));
        keeps("no such text", x -> tell(x, 4, "word a;"));
        keeps("the taking of THE IMAGE", x -> x.image(true));
        keeps("no IMAGE", x -> x.image(false));
        keeps("set() refused", x -> x.set(0, 0, 100));
        keeps("another set()", x -> x.set(2, 0, 0));
        keeps("act() refused", x -> x.act(1, 9));
        keeps("another act()", x -> x.act(4, 0));
        keeps("days() refused", x -> x.days(0));
        keeps("place() refused", x -> x.place(5, 0, 0));
        keeps("letter() refused", x -> x.letter(10));
        keeps("sign() refused", x -> x.sign(12));
        keeps("value() refused", x -> x.value(0, 21));
        keeps("goes()", x -> x.goes(60, 0));
        keeps("out()", x -> x.out());
        keeps("what is asked", x -> all(x));
    }

    private static void keeps(String call, Consumer<DevilsFount> told) {
        // three DAYS and a CASTING
        DevilsFount x = busy();
        int sorts = x.of(5, 0);
        told.accept(x);
        due("look(13) after " + call, x.look(13), 4);
        for (int i = 0; i < 4; i++) {
            due("undo() after " + call, x.undo(), true);
            due("DAY", x.look(8), 3 - i);
            due("sorts", x.of(5, 0), sorts - 1);
        }
        due("undo() beyond", x.undo(), false);
    }

    private static void refusedDeeds() {
        sentence("what is refused");
        DevilsFount x = fount(99);
        x.set(1, 0, 9);
        jobs(x, "from 0 b;");
        due("deeds", x.act(0, 0) || x.act(1, 1) || x.act(2, 0) || x.act(2, 1) || x.act(3, 0) || x.act(7, 0), false);
        due("days(61)", x.days(61), NONE);
        due("nothing is kept", x.look(13), 0);
        due("undo()", x.undo(), false);
    }

    private static void whatStays() {
        sentence("whatever else is told but THE LAW and what is told for thought (SQUARE, ROW, PATTERN, VALUES)");
        DevilsFount x = fount(3);
        jobs(x, "from 0 a;");
        x.days(1);
        law(x, "sets 7; breaks 1;");
        row(x, "12");
        x.sign(1);
        x.sign(2);
        x.value(2, 9);
        x.place(2, 2, 1);
        x.place(3, 3, 2);
        x.undo();
        due("the JOB goes back", x.look(2), 0);
        due("THE LAW does not", x.look(11), 2);
        due("nor what it tells", x.job(0, 3), 7);
        due("ROW does not", x.columns(10, 1), 2);
        due("PATTERN does not", x.pattern(), 1);
        due("VALUES do not", x.values(0), 9);
        due("SQUARE does not", x.square(), 1);
        x.feed(0x73657473, 0x20393b20, 0x20202020, 0x20202020, 0x20202020);
        x.act(0, 0);
        x.undo();
        due("the TAPE does not", x.text(0), 1);
        due("nor THE LAW", x.job(0, 3), 9);
        tell(x, 0, "!");
        x.act(0, 0);
        x.undo();
        due("fault() does not", x.fault(0), 1);
        x.image(true);
        x.act(0, 0);
        x.undo();
        due("THE IMAGE does not", x.image(false), true);
    }

    private static void nothing() {
        sentence("UNDO: true; false if there is nothing.");
        refusedFalse(DevilsFount::new, "undo() of a new one", x -> x.undo());
        refusedFalse(PastBoundaryTest::ready, "undo() of nothing", x -> x.undo());
        Supplier<DevilsFount> undone = () -> {
            DevilsFount x = busy();
            for (int i = 0; i < 4; i++) {
                x.undo();
            }
            return x;
        };
        refusedFalse(undone, "undo() of all that was undone", x -> x.undo());
    }

    private static void imageTaken() {
        sentence("THE IMAGE is taken (true), or gone back to (false): true; false if there is none.");
        refusedFalse(DevilsFount::new, "image(false) of a new one", x -> x.image(false));
        refusedFalse(Sentences::busy, "image(false), none taken", x -> x.image(false));
        refused(Sentences::busy, "image(true)", x -> x.image(true) ? 1 : 0, 1);
        DevilsFount x = new DevilsFount();
        due("taken", x.image(true), true);
        due("of a new one: gone back to", x.image(false), true);
        due("nothing is there", new int[] {x.look(0), x.look(4), x.look(8)}, 0, 5, 0);
        x.act(0, 0);
        due("taken anew", x.image(true), true);
        x.act(0, 0);
        due("gone back to", x.image(false), true);
        due("the latest one", x.of(0, 0), 1);
    }

    /** All is told otherwise, each as far as it can be. */
    private static void tellOtherwise(DevilsFount x) {
        x.days(2);
        x.act(3, 0);
        x.act(0, 9);
        x.act(2, 3);
        for (int l = 0; l < 10; l++) {
            x.set(0, l, 50 + l);
        }
        x.set(1, 0, 1);
        x.state(4711);
        tell(x, 0, "sets 1; breaks 9; dares 3;");
        tell(x, 1, "from 0 jj; from 0 ii; from 0 jihgf; from 2 a; from 2 a; from 2 b;");
        tell(x, 2, "word jihgfedc; word j;");
        tell(x, 3, "on 9 calm;");
        x.act(2, 0);
        row(x, "98765432109");
        x.sign(NONE);
        for (int i = 0; i < 8; i++) {
            x.sign(9 - i);
        }
        for (int i = 0; i < 25; i++) {
            x.place(i % 5, i / 5, 9 - i % 3);
        }
        for (int l = 0; l < 10; l++) {
            x.value(l, 20 - l);
        }
    }

    private static void imageOfAll() {
        sentence("THE IMAGE: all that is and was told but the TAPE, fault() and what can be undone (nothing then), as it was "
            + "when it was taken;");
        Supplier<DevilsFount> made = () -> {
            DevilsFount x = busy();
            x.state(x.look(10));
            return x;
        };
        DevilsFount x = made.get();
        x.image(true);
        tellOtherwise(x);
        due("gone back to", x.image(false), true);
        due("all", all(x), all(made.get()));
        // what is done then is what would have been done
        x = made.get();
        x.image(true);
        tellOtherwise(x);
        x.image(false);
        x.days(3);
        DevilsFount y = made.get();
        y.days(3);
        due("all, three DAYS later", all(x), all(y));
        x = new DevilsFount();
        x.image(true);
        tellOtherwise(x);
        x.image(false);
        due("all of a new one", all(x), all(new DevilsFount()));
        x = new DevilsFount();
        x.image(true);
        tellOtherwise(x);
        x.image(false);
        tellOtherwise(x);
        y = new DevilsFount();
        tellOtherwise(y);
        due("all, told otherwise anew", all(x), all(y));
        longTray();
    }

    private static void longTray() {
        DevilsFount x = new DevilsFount();
        jobs(x, "from 0 abc; from 0 a;");
        x.days(60);
        x.days(16);
        x.image(true);
        for (int i = 0; i < 6; i++) {
            x.undo();
        }
        due("lines", x.look(9), 140);
        x.set(0, 1, 1);
        x.days(6);
        due("other lines", line(x, 148), 74, 1, 0, 2);
        x.image(false);
        due("lines", x.look(9), 150);
        due("the lines of then", line(x, 148), 74, 1, 0, 3);
        due("the lines of then", line(x, 149), 74, 1, 1, 1);
        due("the lines of then", line(x, 0), 0, 1, 0, 3);
    }

    private static void imageWithout() {
        sentence("but the TAPE, fault() and what can be undone (nothing then)");
        DevilsFount x = busy();
        feed(x, "word a;");
        x.image(true);
        due("what can be undone when it was taken", x.look(13), 4);
        feed(x, " word b;");
        x.image(false);
        due("nothing can be undone", x.look(13), 0);
        due("undo()", x.undo(), false);
        due("the TAPE is as it is now", x.text(2), 1);
        due("it is that one", x.devils(0, 10), 0);
        x.image(false);
        tell(x, 2, "word a");
        x.image(false);
        due("fault() is as it is now", new int[] {x.fault(0), x.fault(1)}, 1, 6);
        feed(x, "word c;");
        x.image(true);
        x.end(0);
        x.image(false);
        due("the TAPE does not come back", x.text(2), 0);
    }

    private static void moreThanOnce() {
        sentence("gone back to it may be more than once.");
        DevilsFount x = busy();
        x.image(true);
        for (int i = 0; i < 4; i++) {
            x.act(0, 9);
            x.days(1);
            x.letter(3);
            due("gone back to, time " + i, x.image(false), true);
            due("nothing can be undone", x.undo(), false);
        }
        tellOtherwise(x);
        x.image(false);
        DevilsFount y = busy();
        y.state(y.look(10));
        due("all", all(x), all(y));
    }
}
