import com.sun.management.ThreadMXBean;
import java.lang.management.ManagementFactory;

/** All calls of a run share one room: what an object takes is taken when it is made, and no call takes more. */
public final class RoomTest {
    private static final long ROOM_OF_OBJECT = 2_000_000;
    private static final long ROOM_OF_CALLS = 20_000;
    private static final Check check = new Check();
    private static final ThreadMXBean threads = (ThreadMXBean) ManagementFactory.getThreadMXBean();

    private static long answers;

    public static void main(String[] args) {
        warmUp();
        long before = taken();
        TermMachine x = new TermMachine();
        long made = taken() - before;
        check.due("an object takes at most " + ROOM_OF_OBJECT + " bytes, not " + made, made <= ROOM_OF_OBJECT ? 1 : 0, 1);
        before = taken();
        for (int round = 0; round < 20; round++) {
            useAll(x);
        }
        long used = taken() - before;
        check.due("calls take at most " + ROOM_OF_CALLS + " bytes, not " + used, used <= ROOM_OF_CALLS ? 1 : 0, 1);
        check.due("calls were made", answers != 0 ? 1 : 0, 1);
        check.end("RoomTest");
    }

    /** What the machine makes for itself at first calls is none of the object's room. */
    private static void warmUp() {
        useAll(new TermMachine());
        taken();
    }

    private static long taken() {
        return threads.getThreadAllocatedBytes(Thread.currentThread().getId());
    }

    private static void useAll(TermMachine x) {
        answers += x.begin(0);
        for (int i = 0; i < 200; i++) {
            answers += x.collect(0x0101010101010101L * i, 8);
            answers += x.add(0, 5L * i);
        }
        answers += x.done(0) + x.count(0, 5) + x.arc(0, 1, 0, 1);
        for (int kind = 0; kind < 5; kind++) {
            answers += x.collect(0x2A292E28, 4) + x.meet(0, kind);
            answers += x.collect(0x5D63, 2) + x.meet(0, kind) + x.fault() + x.row(1);
        }
        answers += x.join(0, 0, 1, 1) + x.join(0, 1, 2, 3);
        int size = x.packed(0);
        for (int i = 0; i < size; i++) {
            answers += x.collect(x.sign(i), 1);
        }
        answers += x.load(3) + x.prefix(0) + x.cheapest(0, 100) + x.ceiling(0) + x.number(0) + x.find(0) + x.state(0);
        answers += x.walk(0, 0, true) + x.walk(1, 0, false) + x.next(1) + x.term(0, 1, 1) + x.out(0, 1) + x.forget();
    }
}
