/** Terms: which queues are CHOSEN and how they are routed to, at the edges. */
public final class TermsChoiceTest {
    private static final String TERMS = "Terms (promise 7)";

    public static void main(String[] args) {
        Check check = new Check();
        firstAndLast(check);
        noBinding(check);
        patternIsTheKey(check);
        typeToAll(check);
        typeTopic(check);
        anotherExchangeOrQueue(check);
        eachChosenQueueOnce(check);
        inRisingOrder(check);
        check.end();
    }

    private static QueueBroker bound(int type, int... patterns) {
        QueueBroker x = new QueueBroker();
        x.exchange(0, type, true);
        x.queue(0, 12, -1, true);
        for (int pattern : patterns) {
            x.bind(0, 0, pattern);
        }
        return x;
    }

    private static void firstAndLast(Check check) {
        check.sentence(TERMS, "EXCHANGES 0 .. 4 and QUEUES 0 .. 5 are declared or not");
        for (int e = 0; e <= 4; e++) {
            for (int q = 0; q <= 5; q++) {
                QueueBroker x = new QueueBroker();
                x.exchange(e, 0, true);
                check.due("bind without queue " + q, x.bind(e, q, 0x3), -1);
                x.queue(q, 1, -1, true);
                check.due("publish without a binding", x.publish(0, e, 0x3, 1, 2), -4);
                check.due("bind(" + e + ", " + q + ")", x.bind(e, q, 0x3), 0);
                check.due("publish by exchange " + e, x.publish(0, e, 0x3, 100 * e + q, 2), 1);
                check.bodies("after it", x, q, 100 * e + q);
                for (int other = 0; other <= 5; other++) {
                    check.due("copies of queue " + other, x.count(0, other), other == q ? 1 : 0);
                }
            }
        }
    }

    private static void noBinding(Check check) {
        check.sentence(TERMS, "A queue is CHOSEN by an exchange for a KEY if a binding joins them");
        for (int type = 0; type <= 2; type++) {
            QueueBroker x = bound(type);
            check.due("no binding, type " + type, x.publish(0, 0, 0, 1, 2), -4);
            check.due("no binding, type " + type, x.publish(0, 0, 0x1, 1, 2), -4);
            x.bind(0, 0, 0x1);
            check.due("a binding, type " + type, x.publish(0, 0, 0x1, 1, 2), 1);
            x.unbind(0, 0, 0x1);
            check.due("it is gone, type " + type, x.publish(0, 0, 0x1, 1, 2), -4);
        }
    }

    private static void patternIsTheKey(Check check) {
        check.sentence(TERMS, "the type is 0 and the PATTERN is the KEY");
        int[] patterns = {0, 0x1, 0xd, 0x12, 0x12345678, 0x89abcd12, 0xdddddddd};
        for (int pattern : patterns) {
            for (int key : patterns) {
                check.due("pattern " + pattern + ", key " + key, bound(0, pattern).publish(0, 0, key, 1, 2),
                        pattern == key ? 1 : -4);
            }
        }
        int[] jokers = {0xe, 0xf, 0xff, 0x1f, 0xf1, 0xe1, 0xffffffff};
        QueueBroker x = bound(0, jokers);
        int[] keys = {0, 0x1, 0x11, 0x2, 0x21, 0x12345678};
        for (int key : keys) {
            check.due("jokers mean nothing, key " + key, x.publish(0, 0, key, 1, 2), -4);
        }
    }

    private static void typeToAll(Check check) {
        check.sentence(TERMS, "or it is 1");
        int[] patterns = {0, 0x1, 0x2222, 0xe, 0xf, 0xeeeeeeee, 0xdddddddd};
        int[] keys = {0, 0x1, 0xd, 0x12345678, 0xd1111111};
        for (int pattern : patterns) {
            for (int key : keys) {
                check.due("pattern " + pattern + ", key " + key, bound(1, pattern).publish(0, 0, key, 1, 2), 1);
            }
        }
    }

    private static void typeTopic(Check check) {
        check.sentence(TERMS, "or it is 2 and the PATTERN MATCHES the KEY");
        QueueBroker x = bound(2, 0x12, 0x3e, 0x4f5);
        int[] right = {0x12, 0x31, 0x3d, 0x45, 0x4dd5};
        int[] wrong = {0, 0x1, 0x121, 0x3, 0x311, 0x4, 0x5, 0x54};
        for (int key : right) {
            check.due("key " + key, x.publish(0, 0, key, 1, 2), 1);
        }
        for (int key : wrong) {
            check.due("key " + key, x.publish(0, 0, key, 1, 2), -4);
        }
    }

    private static void anotherExchangeOrQueue(Check check) {
        check.sentence(TERMS, "A BINDING joins an exchange, a queue and a PATTERN");
        QueueBroker x = new QueueBroker();
        for (int e = 0; e <= 4; e++) {
            x.exchange(e, e % 3, true);
            x.queue(e, 12, -1, true);
            x.bind(e, e, 0x1);
        }
        for (int e = 0; e <= 4; e++) {
            check.due("publish by " + e, x.publish(0, e, 0x1, 10 + e, 2), 1);
            check.bodies("only its own queue", x, e, 10 + e);
        }
    }

    private static void eachChosenQueueOnce(Check check) {
        check.sentence(TERMS, "it is PUT into each CHOSEN queue");
        for (int type = 0; type <= 2; type++) {
            for (int n = 1; n <= 6; n++) {
                QueueBroker x = new QueueBroker();
                x.exchange(0, type, true);
                for (int q = 6 - n; q <= 5; q++) {
                    x.queue(q, 12, -1, true);
                    x.bind(0, q, 0x1);
                    x.bind(0, q, 0xe);
                    x.bind(0, q, 0xf);
                    x.bind(0, q, 0xff);
                }
                check.due(n + " queues, four bindings each, type " + type, x.publish(0, 0, 0x1, 5, 0), n);
                for (int q = 0; q <= 5; q++) {
                    check.due("copies of queue " + q, x.count(0, q), q >= 6 - n ? 1 : 0);
                }
            }
        }
    }

    private static void inRisingOrder(Check check) {
        check.sentence(TERMS, "in rising order of queues");
        QueueBroker x = new QueueBroker();
        x.exchange(0, 1, true);
        x.exchange(1, 1, true);
        x.exchange(2, 0, true);
        int[] order = {4, 2, 0, 3, 1};
        for (int q : order) {
            x.queue(q, 1, 1, true);
            x.bind(0, q, 0);
            x.bind(2, q, 0x1 + q);
            x.publish(0, 2, 0x1 + q, 50 + q, 0);
        }
        x.queue(5, 12, -1, true);
        x.bind(1, 5, 0);
        check.due("each put drives one out", x.publish(0, 0, 0, 1, 0), 5);
        check.bodies("the letters came up in this order", x, 5, 50, 51, 52);
    }
}
