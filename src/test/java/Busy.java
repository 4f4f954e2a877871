/**
 * A broker in the midst of its work, for calls that must change nothing.
 *
 * Exchanges 0 (direct, durable), 1 (to all), 2 (topic, durable) are declared, 3 and 4 not. Queues 0 (limit 3, dead 1,
 * durable), 1 (limit 12, dead 2), 2 (limit 2, no dead one, durable) and 3 (limit 1, dead 3, durable, without a copy)
 * are declared, 4 and 5 not. Channel 0 is direct, has the prefetch 1 and holds tag 2; channel 1 has 2 deeds and holds
 * tags 1 (which a deed is to settle) and 2; channel 2 is direct, has the prefetch 1 and holds tag 1; channel 3 has 4 deeds
 * and holds tags 1 (which a deed is to settle) and 2. Queue 2 has copies, but neither of its two consumers is able; queue
 * 3 has two consumers.
 */
final class Busy {
    private Busy() {
    }

    static QueueBroker broker() {
        QueueBroker x = new QueueBroker();
        declare(x);
        consume(x);
        publishAndDeliver(x);
        beginTransactions(x);
        return x;
    }

    /** The same with 24 bindings. */
    static QueueBroker fullyBound() {
        QueueBroker x = broker();
        for (int n = 0; n < 17; n++) {
            x.bind(1, 3, n < 9 ? 0xc1 + n : 0xd1 + n - 9);
        }
        return x;
    }

    private static void declare(QueueBroker x) {
        x.exchange(0, 0, true);
        x.exchange(1, 1, false);
        x.exchange(2, 2, true);
        x.queue(0, 3, 1, true);
        x.queue(1, 12, 2, false);
        x.queue(2, 2, -1, true);
        x.queue(3, 1, 3, true);
        x.bind(0, 0, 0x12);
        x.bind(0, 3, 0x1);
        x.bind(1, 1, 0);
        x.bind(1, 2, 0x5);
        x.bind(2, 0, 0x1f);
        x.bind(2, 1, 0xf);
        x.bind(2, 2, 0xe);
    }

    private static void consume(QueueBroker x) {
        x.consume(2, 0, false);
        x.consume(0, 0, false);
        x.consume(3, 0, true);
        x.consume(1, 1, false);
        x.consume(3, 1, false);
        x.consume(2, 2, false);
        x.consume(0, 2, false);
        x.consume(0, 3, false);
        x.consume(1, 3, false);
        x.prefetch(0, 1);
        x.prefetch(1, 5);
        x.prefetch(2, 1);
    }

    private static void publishAndDeliver(QueueBroker x) {
        x.publish(0, 0, 0x12, 11, 1);
        x.publish(0, 1, 0x3, 12, 0);
        x.publish(0, 2, 0x12, 13, 1);
        x.publish(0, 2, 0x2, 14, 0);
        x.publish(0, 2, 0x1, 15, 1);
        Check.deliver(x, 0, 2);
        x.settle(0, 1, false, 1);
        x.deliver(0);
        x.publish(0, 0, 0x12, 16, 0);
        x.publish(0, 0, 0x12, 17, 1);
        x.deliver(0);
        Check.deliver(x, 1, 4);
        x.publish(0, 1, 0, 20, 1);
    }

    private static void beginTransactions(QueueBroker x) {
        x.begin(1);
        x.publish(1, 0, 0x12, 18, 1);
        x.settle(1, 1, false, 2);
        x.begin(3);
        x.settle(3, 1, false, 1);
        for (int n = 0; n < 3; n++) {
            x.publish(3, 1, 0, 30 + n, 0);
        }
    }
}
