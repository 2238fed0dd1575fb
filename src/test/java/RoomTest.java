import java.lang.management.ManagementFactory;

/** The room of a run is small: behind the constructor only texts may make something new. */
public final class RoomTest {
    private static final int OBJECTS = 40, ROUNDS = 12, TEXTS = 150;

    public static void main(String[] args) {
        com.sun.management.ThreadMXBean threads = (com.sun.management.ThreadMXBean) ManagementFactory.getThreadMXBean();
        long self = Thread.currentThread().getId();
        rounds(full());
        long spent = 0;
        for (int i = 0; i < OBJECTS; i++) {
            LionShield x = full();
            long before = threads.getThreadAllocatedBytes(self);
            rounds(x);
            spent += threads.getThreadAllocatedBytes(self) - before;
        }
        Due.is("bytes made by all calls but text (" + spent + ") are few", spent < 4096 ? 0 : spent, 0);
        long before = threads.getThreadAllocatedBytes(self);
        LionShield y = new LionShield();
        spent = threads.getThreadAllocatedBytes(self) - before;
        Due.is("bytes of a new object (" + spent + ") are few", spent < 16384 ? 0 : spent, 0);
        before = threads.getThreadAllocatedBytes(self);
        y.keep();
        for (int i = 0; i < TEXTS; i++) {
            y.feed(0x66656520, 0x31322B33, 0x34352020);
            y.text();
            y.back();
        }
        spent = threads.getThreadAllocatedBytes(self) - before;
        Due.is("bytes of " + TEXTS + " texts (" + spent + ") are few", spent < TEXTS * 1024L ? 0 : spent, 0);
        Due.end();
    }

    private static LionShield full() {
        LionShield x = new LionShield();
        x.person(0, -1, -1, 0, 0);
        x.person(0, -1, -1, 1, 1);
        Due.text(x, "join (f+m)/2-n");
        Due.text(x, "fee y*p");
        Due.text(x, "fine a-b");
        x.fertile(90);
        x.years(5);
        x.keep();
        return x;
    }

    /** All calls but text, so often that one object has not more than its 512. */
    private static void rounds(LionShield x) {
        for (int i = 0; i < ROUNDS; i++) {
            x.back();
            x.person(i % 6, 0, 1, i % 2, i % 8);
            x.told(i % 8, i % 8);
            x.bears(i % 8, i % 8);
            x.as(i % 8, i % 6);
            x.turns(i % 8, i % 6);
            x.set(i % 8, 5, i % 256);
            x.deal(1);
            x.years(1 + i % 100);
            x.alike(0, 1);
            x.land(i % 4);
            x.sixteenth(i % 8);
            x.from(i % 8, i % 8);
            x.match(i % 8, i % 8, 0);
            x.repaint();
            x.behind(i % 101, i % 10);
            x.born();
            x.gone(i % 61, 0);
            x.sheet(i % 4, i % 2, i % 25);
            x.mark(i % 4, 0, i);
            x.spoon(i % 4, 0);
            x.pour(i % 4);
            x.reads(i % 4);
            x.copy(i % 4, 0, i % 4, 0, 1);
            x.fee();
            x.fine(0);
            x.feed(i, i, i);
            x.trim(0);
            x.textTold(0, 1);
            x.why(0);
            x.lay(i % 5, i % 4, 0);
            x.ask(i % 5, 0);
            x.item(i % 5, 0);
            x.rest(i % 5, 3);
            x.tell(i);
            x.check(30);
            x.count(i % 8);
            x.seed(i);
        }
    }
}
