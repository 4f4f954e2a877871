import com.sun.management.ThreadMXBean;
import java.lang.management.ManagementFactory;
import java.util.function.ObjIntConsumer;

/**
 * What the dearest runs of 512 calls make fits well into the room of a run: 600,000 objects, 7.3 million fields and
 * elements. An object takes 16 bytes at least and a field or element one, so the bytes made are an upper bound.
 */
public final class RoomTest {
    private static final int CALLS = 512;
    private static final long MOST_BYTES = 7_300_000;

    private static final ThreadMXBean THREADS = (ThreadMXBean) ManagementFactory.getThreadMXBean();

    public static void main(String[] args) {
        Check check = new Check();
        run(check, "publish into six full queues, three letters each time", RoomTest::publish);
        run(check, "four publish as deeds, then commit", RoomTest::commit);
        run(check, "deliver and return", RoomTest::giveBack);
        run(check, "declare, bind, consume and crash", RoomTest::crash);
        run(check, "questions", RoomTest::questions);
        check.end();
    }

    private static void run(Check check, String what, ObjIntConsumer<QueueBroker> call) {
        // The first round loads what Java itself needs.
        bytesOf(call);
        long bytes = bytesOf(call);
        check.due(what + ", bytes beyond the room", Math.max(bytes - MOST_BYTES, 0), 0);
        check.due(what + ", objects beyond the room", Math.max(bytes / 16 - 600_000, 0), 0);
    }

    private static long bytesOf(ObjIntConsumer<QueueBroker> call) {
        long before = THREADS.getCurrentThreadAllocatedBytes();
        QueueBroker x = Check.toAll(6, 1, 0);
        for (int n = 13; n < CALLS; n++) {
            call.accept(x, n);
        }
        return THREADS.getCurrentThreadAllocatedBytes() - before;
    }

    private static void publish(QueueBroker x, int n) {
        x.publish(0, 0, 0x12345678, n, 1);
    }

    private static void commit(QueueBroker x, int n) {
        if (n == 13) {
            x.begin(0);
        } else if (n % 5 == 0) {
            x.commit(0);
        } else {
            x.publish(0, 0, 0x12345678, n, 1);
        }
    }

    private static void giveBack(QueueBroker x, int n) {
        if (n < 17) {
            x.consume(n - 13, 0, false);
        } else if (n % 50 == 0) {
            x.settle(n % 4, 0, true, n % 3);
        } else if (n % 2 == 0) {
            x.deliver(0);
        } else {
            x.publish(0, 0, 0x12345678, n, 1);
        }
    }

    private static void crash(QueueBroker x, int n) {
        switch (n % 4) {
            case 0:
                x.consume(n / 4 % 4, n % 6, false);
                break;
            case 1:
                x.exchange(1, 2, false);
                break;
            case 2:
                x.bind(1, n % 6, 0xffffffff);
                break;
            default:
                x.crash();
        }
    }

    private static void questions(QueueBroker x, int n) {
        switch (n % 3) {
            case 0:
                x.count(n % 8, n % 4);
                break;
            case 1:
                x.ready(n % 6, 0, n % 5);
                break;
            default:
                x.held(n % 4, 0, n % 8);
        }
    }
}
