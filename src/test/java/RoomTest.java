import com.sun.management.ThreadMXBean;
import java.lang.management.ManagementFactory;

// All calls of one run live in one room: a new object takes a small part of it, and calls make nothing.
public final class RoomTest {
    private static final long BYTES_OF_AN_OBJECT = 200_000;
    // What the machine itself may take while the calls run: far less than one array a call.
    private static final long BYTES_OF_THE_MACHINE = 2_000;
    private static final int ROUNDS = 64;

    private static final ThreadMXBean ROOM = (ThreadMXBean) ManagementFactory.getThreadMXBean();
    private static long sum = 0;

    private static long taken() {
        return ROOM.getThreadAllocatedBytes(Thread.currentThread().getId());
    }

    private static void build(LessonWays x) {
        for (int i = 0; i < 9; i++) {
            sum += x.item(0, 0, 0);
        }
        sum += x.item(1, 2048, 0) + x.other(9, 0) + x.item(2, 0, 1) + x.item(3, 0, 1);
        sum += x.sheet(0, 0, 40) + x.sheet(1, 2, 40) + x.sheet(2, 0, 40);
    }

    private static void everyCall(LessonWays x, int k) {
        int set = k * 37 % 4096;
        int item = k % 12;
        sum += x.item(0, 0, 0) + x.other(9, set) + x.hours(item, 1 + k % 100) + x.about(item, k % 5) + x.served(item, set);
        sum += x.states() + x.state(set) + x.at(k) + x.top() + x.next(set) + x.last(set) + x.core(set) + x.reason(item, set);
        sum += x.test(k % 100, 3) + x.left() + x.ask() + x.unsure(item, true) + x.answer(item, k % 2 == 0) + x.likely();
        sum += x.weight(set) + x.weights() + x.cost(0, set) + x.way(0, set, k % 12) + x.ways(set);
        for (int i = 0; i < 10; i++) {
            sum += x.answer(i, (set >> i & 1) == 1);
        }
        sum += x.worst() + x.pupil(set) + x.learn(item) + x.use(item) + x.pass(1 + k % 100) + x.sheet(3, k % 3, k % 41);
        sum += x.put(0, 0, k % 40, set) + x.get(0, 0, k % 40) + x.copy(0, 1, 2, 0, 39) + x.lose(3) + x.nearest(set);
        sum += x.far(set, k) + x.base(k % 14) + x.atom(item, 0) + x.misfit(0) + x.odd(0, item, 1) + x.seen(0, item, 3);
        sum += x.common(0) + x.judge(0, k % 40) + x.count(k % 8) + x.digest();
    }

    private static void runOfCalls(LessonWays x) {
        build(x);
        for (int k = 0; k < ROUNDS; k++) {
            everyCall(x, k);
        }
    }

    public static void main(String[] args) {
        int wrong = 0;
        runOfCalls(new LessonWays());
        long before = taken();
        LessonWays x = new LessonWays();
        long object = taken() - before;
        if (object > BYTES_OF_AN_OBJECT) {
            wrong++;
            System.out.println("an object takes " + object + " bytes");
        }
        before = taken();
        runOfCalls(x);
        long calls = taken() - before;
        if (calls > BYTES_OF_THE_MACHINE) {
            wrong++;
            System.out.println("calls take " + calls + " bytes");
        }
        System.out.println(wrong == 0 ? "an object takes " + object + " bytes, its calls " + calls + " (" + sum + ")" : wrong + " faults");
        if (wrong != 0) {
            System.exit(1);
        }
    }
}
