/** Promise 7: publish, with what a KEY is, which queues are CHOSEN, PUTTING and LETTERS. */
public final class P07PublishTest {
    public static void main(String[] args) {
        Check check = new Check();
        direct(check);
        toAll(check);
        topic(check);
        onceEachInRisingOrder(check);
        flags(check);
        inATransaction(check);
        check.end();
    }

    private static QueueBroker ofType(int type, int... patterns) {
        QueueBroker x = new QueueBroker();
        x.exchange(2, type, true);
        x.queue(3, 12, -1, true);
        for (int pattern : patterns) {
            x.bind(2, 3, pattern);
        }
        return x;
    }

    private static void direct(Check check) {
        QueueBroker x = ofType(0, 0x12, 0x8d111111, 0xe, 0xff, 0);
        check.due("the same key", x.publish(0, 2, 0x12, -7, 0), 1);
        check.due("its body", x.ready(3, 0, 0), -7);
        check.due("its key", x.ready(3, 0, 1), 0x12);
        check.due("the empty key", x.publish(0, 2, 0, 1, 0), 1);
        check.due("a key of eight words", x.publish(0, 2, 0x8d111111, Integer.MIN_VALUE, 0), 1);
        check.due("its body", x.ready(3, 2, 0), Integer.MIN_VALUE);
        check.due("its key", x.ready(3, 2, 1), 0x8d111111);
        check.due("a shorter key", x.publish(0, 2, 0x1, 1, 0), 0);
        check.due("a longer key", x.publish(0, 2, 0x123, 1, 0), 0);
        check.due("jokers mean nothing", x.publish(0, 2, 0x3, 1, 0), 0);
        check.due("copies", x.count(0, 3), 3);
    }

    private static void toAll(Check check) {
        QueueBroker x = ofType(1, 0x12);
        int[] keys = {0, 0x1, 0x12, 0x12345678, 0xd};
        for (int key : keys) {
            check.due("publish " + Integer.toHexString(key), x.publish(0, 2, key, 1, 2), 1);
        }
        check.due("without a binding", ofType(1).publish(0, 2, 0, 1, 0), 0);
    }

    private static void topic(Check check) {
        int[][] fits = {
            {0, 0}, {0x1, 0x1}, {0xe, 0x1}, {0xe, 0xd}, {0xf, 0}, {0xf, 0x1}, {0xf, 0x12345678}, {0xff, 0}, {0xff, 0x1},
            {0xffffffff, 0}, {0xffffffff, 0x87654321}, {0xeeeeeeee, 0xdddddddd}, {0x1f, 0x1}, {0x1f, 0x12}, {0x1f, 0x1234},
            {0xf1, 0x1}, {0xf1, 0x221}, {0xf1, 0x11}, {0x1f1, 0x11}, {0x1f1, 0x1221}, {0x1f2f3, 0x123},
            {0x1f2f3, 0x1223223}, {0xfef, 0x1}, {0xfef, 0x123}, {0xef, 0x1}, {0xe2e, 0x121}, {0xf1f1f, 0x2121},
            {0xf12f, 0x1112}, {0xfeeeeeee, 0x1111111}, {0xf1111111, 0x1111111}, {0xf1111111, 0x21111111}, {0x1f2, 0x122}};
        for (int[] pair : fits) {
            check.due(Integer.toHexString(pair[0]) + " for " + Integer.toHexString(pair[1]),
                    ofType(2, pair[0]).publish(0, 2, pair[1], 1, 0), 1);
        }
        int[][] failures = {
            {0, 0x1}, {0x1, 0}, {0x1, 0x2}, {0xe, 0}, {0xe, 0x12}, {0x1f, 0}, {0x1f, 0x21}, {0xf1, 0x12}, {0x1f1, 0x1},
            {0x1f1, 0x12}, {0xfef, 0}, {0xef, 0}, {0xee, 0x1}, {0xee, 0x123}, {0x1f2f3, 0x132}, {0xe2e, 0x111},
            {0xf1f1f, 0x212}, {0xeeeeeeee, 0xddddddd}, {0x12, 0x123}, {0x123, 0x12}, {0x12, 0x21}, {0xfeeeeeee, 0x111111},
            {0xf12f, 0x2111}};
        for (int[] pair : failures) {
            check.due(Integer.toHexString(pair[0]) + " not for " + Integer.toHexString(pair[1]),
                    ofType(2, pair[0]).publish(0, 2, pair[1], 1, 2), -4);
        }
    }

    private static void onceEachInRisingOrder(Check check) {
        QueueBroker x = new QueueBroker();
        x.exchange(0, 2, true);
        for (int q = 5; q >= 0; q--) {
            x.queue(q, 1, 1, true);
            x.bind(0, q, 0xf);
            x.bind(0, q, 0xe);
            x.bind(0, q, 0x1);
        }
        check.due("chosen by several bindings", x.publish(0, 0, 0x1, 1, 0), 6);
        for (int q = 0; q < 6; q++) {
            check.bodies("once each", x, q, 1);
        }
        x.exchange(2, 0, true);
        for (int q = 0; q < 6; q++) {
            x.bind(2, q, 0x1 + q);
            x.publish(0, 2, 0x1 + q, 100 + q, 0);
        }
        check.letters("no dead exchange as yet", x, 0, 6);
        x.exchange(1, 1, true);
        x.drop(5);
        x.queue(5, 12, -1, true);
        x.bind(1, 5, 0);
        check.due("chosen by one binding each", x.publish(0, 0, 0x2, 2, 0), 5);
        check.bodies("letters from queues 0, 1 and 2", x, 5, 100, 101, 102);
        check.letters("three of five", x, 3, 8);
    }

    private static void flags(Check check) {
        QueueBroker x = ofType(0, 0x1);
        for (int flags = 0; flags < 4; flags++) {
            check.due("flags " + flags, x.publish(flags, 2, 0x1, 5, flags), 1);
            check.due("persistent", x.ready(3, flags, 4), flags % 2);
            check.due("hops", x.ready(3, flags, 2), 0);
            check.due("returned", x.ready(3, flags, 3), 0);
        }
        check.due("not mandatory", x.publish(0, 2, 0x2, 5, 0), 0);
        check.due("persistent, not mandatory", x.publish(0, 2, 0x2, 5, 1), 0);
        check.leaves(x, "mandatory", -4, () -> x.publish(0, 2, 0x2, 5, 2));
        check.leaves(x, "mandatory and persistent", -4, () -> x.publish(0, 2, 0x2, 5, 3));
    }

    private static void inATransaction(Check check) {
        QueueBroker x = ofType(0, 0x1);
        x.begin(1);
        for (int n = 1; n <= 4; n++) {
            check.due("deed " + n, x.publish(1, 2, n, n, 2), 100);
            check.due("deeds", x.count(3, 1), n);
        }
        check.leaves(x, "deed 5", -2, () -> x.publish(1, 2, 0x1, 5, 0));
        check.leaves(x, "a wrong key is told first", -1, () -> x.publish(1, 2, 0xe, 5, 0));
        check.due("nothing is there", x.count(0, 3), 0);
        check.due("another channel is not held up", x.publish(0, 2, 0x1, 6, 0), 1);
        check.bodies("from the other channel", x, 3, 6);
    }
}
