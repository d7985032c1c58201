import com.sun.management.ThreadMXBean;
import java.lang.management.ManagementFactory;
import java.util.function.ToIntFunction;

/** An object is used for 512 calls: the last one is answered as it is due, and all of them have room. */
public final class CallsBoundaryTest extends Sentences {
    private static final int MOST_CALLS = 512;
    /** Some 7.3 million fields and elements, of eight bytes at most. */
    private static final long ROOM = 7300000L * 8;
    private static final ThreadMXBean THREADS = (ThreadMXBean) ManagementFactory.getThreadMXBean();

    public static void main(String[] args) {
        toldToTheEnd();
        doneToTheEnd();
        askedToTheEnd();
        tellAll();
    }

    private static void toldToTheEnd() {
        sentence("An object is used for at most 512 calls after it has been made;");
        DevilsFount x = new DevilsFount();
        for (int i = 1; i < MOST_CALLS; i++) {
            x.state(i);
        }
        due("the 512th state()", x.state(0), 511);
        x = new DevilsFount();
        for (int i = 1; i < MOST_CALLS; i++) {
            x.feed(0x776f7264, 0x20612020, 0x20202020, 0x20202020, 0x3b202020);
        }
        due("the 512th call, text(2), of 400 bytes", x.text(2), NONE);
        x = new DevilsFount();
        for (int i = 1; i < MOST_CALLS; i++) {
            x.feed(0x776f7264, 0x20612020, 0x20202020, 0x20202020, 0x3b202020);
            i++;
            due("text(2)", x.text(2), 1);
        }
        x = new DevilsFount();
        for (int i = 1; i < MOST_CALLS; i++) {
            due("image(true)", x.image(true), true);
        }
        due("the 512th call, image(false)", x.image(false), true);
        x = new DevilsFount();
        for (int i = 1; i < MOST_CALLS; i++) {
            due("letter()", x.letter(i % 13 == 0 ? NONE : i % 10), i % 13);
        }
        due("the 512th letter()", x.letter(3), 512 % 13);
    }

    private static void doneToTheEnd() {
        sentence("An object is used for at most 512 calls after it has been made;");
        DevilsFount x = new DevilsFount();
        for (int i = 1; i < MOST_CALLS; i++) {
            due("act() " + i, x.act(i % 2 == 1 ? 0 : 1, 0), true);
        }
        due("the 512th call, of(0, 0)", x.of(0, 0), 1);
        x = new DevilsFount();
        for (int i = 1; i < MOST_CALLS; i++) {
            due("days(60) " + i, x.days(60), i <= 166 ? 0 : NONE);
        }
        due("the 512th call, look(8)", x.look(8), 9960);
        x = new DevilsFount();
        for (int i = 1; i < MOST_CALLS; i++) {
            due("act(0, 9) or undo() " + i, i % 2 == 1 ? x.act(0, 9) : x.undo(), true);
        }
        due("the 512th call, undo()", x.undo(), true);
    }

    /** As much of all as can be told, so that each question is a long one. */
    private static DevilsFount full() {
        DevilsFount x = fount(99, 99, 99, 99, 99, 99, 99, 99, 99, 1);
        law(x, "dares 600 when not(not(not(not 1*2*3/1+4-5=day or least<rest and 1>2)));" + "sets 7 when 1=2;".repeat(13)
            + "sets 500 when 1<2;breaks 9 when waits>0;");
        jobs(x, "from 0 abcdefgh;".repeat(15) + "from 0 jihgfedc;");
        book(x, "word abcdefgh;".repeat(12) + "word abab;word abba;word baba;word bbaa;");
        changes(x, "on 0 cast a 50;on 1 melt a 50;".repeat(8));
        row(x, "010010110010");
        for (int i = 0; i < 8; i++) {
            x.sign(i % 2 == 0 ? 11 : 10);
        }
        for (int l = 0; l < 10; l++) {
            x.value(l, 20 - l);
        }
        return x;
    }

    private static void asked(String call, ToIntFunction<DevilsFount> question) {
        DevilsFount x = full();
        long before = THREADS.getCurrentThreadAllocatedBytes();
        int first = question.applyAsInt(x);
        int others = 0;
        // at most a hundred calls were made for it
        for (int i = 101; i < MOST_CALLS; i++) {
            others += question.applyAsInt(x) == first ? 0 : 1;
        }
        long taken = THREADS.getCurrentThreadAllocatedBytes() - before;
        due("other answers of " + call, others, 0);
        due(call + " takes " + taken + " bytes, which have room", taken < ROOM, true);
    }

    private static void askedToTheEnd() {
        sentence("An object is used for at most 512 calls after it has been made;");
        asked("goes(60, 2)", x -> x.goes(60, 2));
        asked("out()", x -> x.out());
        asked("job(15, 3)", x -> x.job(15, 3));
        asked("job(15, 4)", x -> x.job(15, 4));
        asked("devils(0, 1)", x -> x.devils(0, 1));
        asked("of(0, 2)", x -> x.of(0, 2));
        asked("numbers()", x -> x.numbers());
        asked("pattern()", x -> x.pattern());
        asked("turned(NONE)", x -> x.turned(NONE));
        asked("turned(11)", x -> x.turned(11));
        asked("front(11)", x -> x.front(11));
        for (int what = 0; what < 4; what++) {
            int w = what;
            asked("row(" + what + ")", x -> x.row(w));
        }
        asked("seven(127, 1)", x -> x.seven(127, 1));
        asked("over(1048575, 255)", x -> x.over(1048575, 255));
        asked("ring(8, 255, 0)", x -> x.ring(8, 255, 0));
        asked("ring(8, 256, 1)", x -> x.ring(8, 256, 1));
        asked("columns(1543210, 11)", x -> x.columns(1543210, 11));
        asked("values(1)", x -> x.values(1));
        asked("values(106)", x -> x.values(106));
        asked("game(1)", x -> x.game(1));
        asked("image(true)", x -> x.image(true) ? 1 : 0);
        asked("text(0)", x -> x.text(0));
    }
}
