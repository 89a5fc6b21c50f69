import java.lang.management.ManagementFactory;

/** All calls of a run live in one room: only the constructor may make objects, and the dearest calls must end soon. */
public final class RoomTest {
    private static final Check C = new Check();
    private static final com.sun.management.ThreadMXBean THREADS =
        (com.sun.management.ThreadMXBean) ManagementFactory.getThreadMXBean();

    private static long made() {
        return THREADS.getThreadAllocatedBytes(Thread.currentThread().getId());
    }

    public static void main(String[] args) {
        C.promise(0, "room");
        new IceOfApplause();
        long before = made();
        IceOfApplause x = new IceOfApplause();
        long each = made() - before;
        C.holds("an object takes less than 32 KB, not " + each, each < 32_768);
        C.due("law", dearest(x), 1);
        askAll(x);
        before = made();
        for (int k = 0; k < 3; k++) {
            askAll(x);
        }
        long calls = made() - before;
        C.holds("calls make nothing, not " + calls + " bytes", calls < 1024);
        C.end();
    }

    /** As much of all as there may be, with a law that is long and looks at the ice. */
    private static int dearest(IceOfApplause x) {
        for (int k = 0; k < 6; k++) {
            x.hands(10 + k, 3 * k);
        }
        x.mend(0, 6, 16);
        for (int k = 0; k < 5; k++) {
            x.turn(k, 1 + k);
        }
        x.row(0, 0, 20);
        x.row(1, 1, 16);
        x.body(5);
        String text = "((((((i+1))))))%7+g*h/(d+1)-e*t+(i<5)*3-i/20+h%3*2-!g+--d*2-(t>3&e<4|g=2)+(i*i*i*i%11)-i/30+h/9+g-d/2+t";
        for (int k = 0; k < text.length(); k++) {
            x.feed(text.charAt(k));
        }
        return x.law();
    }

    private static void askAll(IceOfApplause x) {
        x.fewest(999, -1);
        x.order(-1);
        x.orders(1, 0);
        x.claque(0, 999);
        x.seat(0, 0, 0);
        x.harm(0);
        x.spare(0, 0);
        x.drawn(1, 3020, 0);
        x.warm(1);
        x.good(1, 0, 0);
        x.which(1, 0);
        x.waits(0, 10);
        x.first(0, 9999);
        x.encore(0);
        x.row(2, 3, 60);
        x.put(2, 59, 1);
        x.shift(2, 0, 2, 1, 59);
        x.keep(3, 0);
        x.act(0, 3, 1);
        x.mend(0, 7, 1 + x.of(0, 7) % 2);
        x.undo();
        x.redo();
        x.image();
        x.play(0);
        x.back();
        x.feed(49);
        x.feed(43);
        x.law();
    }
}
