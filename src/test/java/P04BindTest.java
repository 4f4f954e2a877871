/** Promise 4: bind, with what a PATTERN is and which queues a binding chooses. */
public final class P04BindTest {
    private static final int REFUSED = -1;

    public static void main(String[] args) {
        Check check = new Check();
        binds(check);
        thereAlready(check);
        noRoom(check);
        patterns(check);
        check.end();
    }

    private static QueueBroker twoAndTwo() {
        QueueBroker x = new QueueBroker();
        x.exchange(0, 2, true);
        x.exchange(4, 1, true);
        x.queue(0, 12, -1, true);
        x.queue(5, 12, -1, true);
        return x;
    }

    private static void binds(Check check) {
        QueueBroker x = twoAndTwo();
        check.due("bind(0, 5, 0x1)", x.bind(0, 5, 0x1), 0);
        check.due("bindings of 0", x.count(4, 0), 1);
        check.due("bindings of 4", x.count(4, 4), 0);
        check.due("publish with its key", x.publish(0, 0, 0x1, 9, 0), 1);
        check.bodies("after it", x, 5, 9);
        check.bodies("after it", x, 0);
    }

    private static void thereAlready(Check check) {
        QueueBroker x = twoAndTwo();
        x.bind(0, 0, 0x1);
        check.leaves(x, "the same", -3, () -> x.bind(0, 0, 0x1));
        check.due("another exchange", x.bind(4, 0, 0x1), 0);
        check.due("another queue", x.bind(0, 5, 0x1), 0);
        check.due("another pattern", x.bind(0, 0, 0x11), 0);
        check.due("bindings of 0", x.count(4, 0), 3);
        check.due("bindings of 4", x.count(4, 4), 1);
    }

    private static void noRoom(Check check) {
        QueueBroker x = twoAndTwo();
        for (int n = 0; n < 24; n++) {
            int e = n % 2 == 0 ? 0 : 4;
            check.due("binding number " + n, x.bind(e, 5, 0x11 + n % 15 + 16 * (n / 15)), 0);
        }
        check.leaves(x, "number 25", -2, () -> x.bind(0, 0, 0x7));
        check.leaves(x, "number 25 by the other exchange", -2, () -> x.bind(4, 0, 0x7));
        check.leaves(x, "there already is told first", -3, () -> x.bind(0, 5, 0x11));
        check.leaves(x, "a wrong pattern is told first", REFUSED, () -> x.bind(0, 5, 0x10));
        x.unbind(0, 5, 0x11);
        check.due("after one went", x.bind(0, 0, 0x7), 0);
        check.leaves(x, "again number 25", -2, () -> x.bind(0, 0, 0x8));
    }

    private static void patterns(Check check) {
        int[] right = {0, 1, 13, 14, 15, 0x1f, 0xff, 0xe1d, 0x12345678, 0xfffffff, 0xffffffff, 0x81111111, 0xeeeeeeee};
        for (int pattern : right) {
            QueueBroker x = twoAndTwo();
            check.due("bind(0, 0, " + Integer.toHexString(pattern) + ")", x.bind(0, 0, pattern), 0);
        }
        int[] wrong = {0x10, 0x101, 0xf0, 0x1200, 0x10000000, 0x80000000, 0x12345670, 0x10345678, 0xfffffff0, 0xff0fffff,
            0x0f0f0f0f};
        for (int pattern : wrong) {
            QueueBroker x = twoAndTwo();
            check.leaves(x, "bind(0, 0, " + Integer.toHexString(pattern) + ")", REFUSED, () -> x.bind(0, 0, pattern));
        }
    }
}
