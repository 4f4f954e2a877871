/** Promise 4: bind, sentence by sentence. */
public final class P04BindEdgesTest {
    private static final String PROMISE = "Promise 4";

    public static void main(String[] args) {
        Check check = new Check();
        declaredNumbers(check);
        mustBeAPattern(check);
        thereAlready(check);
        twentyFour(check);
        twentyFourInAll(check);
        alreadyThereIsToldBeforeNoRoom(check);
        roomAgain(check);
        check.end();
    }

    private static QueueBroker all() {
        QueueBroker x = new QueueBroker();
        for (int e = 0; e <= 4; e++) {
            x.exchange(e, e % 3, e % 2 == 0);
        }
        for (int q = 0; q <= 5; q++) {
            x.queue(q, 12, -1, q % 2 == 0);
        }
        return x;
    }

    private static void declaredNumbers(Check check) {
        check.sentence(PROMISE, "Adds a binding (an exchange or queue that isn't declared: REFUSED)");
        for (int e = -1; e <= 5; e++) {
            for (int q = -1; q <= 6; q++) {
                boolean right = e >= 0 && e <= 4 && q >= 0 && q <= 5;
                check.due("bind(" + e + ", " + q + ", 0x1)", all().bind(e, q, 0x1), right ? 0 : -1);
            }
        }
        int[] exchanges = {-1, 3, 4, 5};
        for (int e : exchanges) {
            Later.unchanged(check, "bind(" + e + ", 0, 0x7)", -1, Busy::broker, x -> x.bind(e, 0, 0x7));
        }
        int[] queues = {-1, 4, 5, 6};
        for (int q : queues) {
            Later.unchanged(check, "bind(0, " + q + ", 0x7)", -1, Busy::broker, x -> x.bind(0, q, 0x7));
        }
    }

    private static void mustBeAPattern(Check check) {
        check.sentence(PROMISE, "pattern must be a PATTERN");
        int[] right = {0, 0x1, 0xf, 0x11, 0x1fffffff, 0x7fffffff, 0x81111111, 0xffffffff};
        for (int pattern : right) {
            QueueBroker x = all();
            check.due("bind(0, 0, " + pattern + ")", x.bind(0, 0, pattern), 0);
            check.due("bindings", x.count(4, 0), 1);
        }
        int[] wrong = {0x10, 0xf0, 0x100, 0x101, 0x7ffffff0, 0x80000000, 0x80000001, 0xfffffff0, 0xf0ffffff};
        for (int pattern : wrong) {
            Later.unchanged(check, "bind(0, 0, " + pattern + ")", -1, Busy::broker, x -> x.bind(0, 0, pattern));
        }
    }

    private static void thereAlready(Check check) {
        check.sentence(PROMISE, "It is there already: STATE");
        QueueBroker x = all();
        int[] patterns = {0, 0x1, 0xf, 0x11, 0xffffffff};
        for (int pattern : patterns) {
            check.due("bind(4, 5, " + pattern + ")", x.bind(4, 5, pattern), 0);
            check.due("bind(4, 5, " + pattern + ") again", x.bind(4, 5, pattern), -3);
            check.due("bind(4, 0, " + pattern + ")", x.bind(4, 0, pattern), 0);
            check.due("bind(0, 5, " + pattern + ")", x.bind(0, 5, pattern), 0);
        }
        check.due("bindings of 4", x.count(4, 4), 10);
        Later.unchanged(check, "bind(0, 0, 0x12)", -3, Busy::broker, y -> y.bind(0, 0, 0x12));
        Later.unchanged(check, "bind(1, 1, 0)", -3, Busy::broker, y -> y.bind(1, 1, 0));
        Later.unchanged(check, "bind(2, 2, 0xe)", -3, Busy::broker, y -> y.bind(2, 2, 0xe));
    }

    private static void twentyFour(Check check) {
        check.sentence(PROMISE, "there are 24 bindings: FULL");
        QueueBroker x = all();
        for (int n = 1; n <= 24; n++) {
            check.due("binding " + n, x.bind(0, 0, n <= 12 ? 0x11 + n : 0x21 + n - 12), 0);
            check.due("bindings", x.count(4, 0), n);
        }
        check.due("binding 25 of the same exchange and queue", x.bind(0, 0, 0x3), -2);
        check.due("binding 25 of others", x.bind(4, 5, 0x3), -2);
        check.due("bindings", x.count(4, 0), 24);
        check.due("bindings of 4", x.count(4, 4), 0);
        check.due("the first one works", x.publish(0, 0, 0x12, 1, 2), 1);
        check.due("the last one works", x.publish(0, 0, 0x2d, 2, 2), 1);
        check.due("number 25 doesn't", x.publish(0, 0, 0x3, 3, 2), -4);
        Later.unchanged(check, "bind(0, 3, 0x7)", -2, Busy::fullyBound, y -> y.bind(0, 3, 0x7));
    }

    private static void twentyFourInAll(Check check) {
        check.sentence(PROMISE, "there are 24 bindings, whatever they join: FULL");
        QueueBroker x = all();
        int made = 0;
        for (int e = 0; e <= 4; e++) {
            for (int q = 0; q <= 5; q++) {
                check.due("binding " + (made + 1), x.bind(e, q, 0x1), made < 24 ? 0 : -2);
                made++;
            }
        }
        for (int e = 0; e <= 4; e++) {
            check.due("bindings of " + e, x.count(4, e), e < 4 ? 6 : 0);
        }
    }

    private static void alreadyThereIsToldBeforeNoRoom(Check check) {
        check.sentence(PROMISE, "It is there already: STATE; there are 24 bindings: FULL (in this order)");
        Later.unchanged(check, "bind(2, 1, 0xf)", -3, Busy::fullyBound, x -> x.bind(2, 1, 0xf));
        Later.unchanged(check, "bind(1, 3, 0xd8)", -3, Busy::fullyBound, x -> x.bind(1, 3, 0xd8));
        Later.unchanged(check, "bind(1, 3, 0xd9)", -2, Busy::fullyBound, x -> x.bind(1, 3, 0xd9));
    }

    private static QueueBroker four(int perPair) {
        QueueBroker x = all();
        for (int n = 0; n < perPair; n++) {
            x.bind(0, 0, 0x11 + n);
            x.bind(0, 1, 0x11 + n);
            x.bind(1, 0, 0x11 + n);
            x.bind(1, 1, 0x11 + n);
        }
        return x;
    }

    private static void room(Check check, String when, QueueBroker x, int room) {
        for (int n = 0; n <= room; n++) {
            check.due(when + ": binding " + (n + 1) + " of " + room, x.bind(2, 4, 0x11 + n % 12 + 16 * (n / 12)),
                    n < room ? 0 : -2);
        }
    }

    private static void roomAgain(Check check) {
        check.sentence(PROMISE, "there are 24 bindings: not any more, once some went");
        room(check, "24 are there", four(6), 0);
        QueueBroker unbound = four(6);
        unbound.unbind(1, 1, 0x16);
        room(check, "after an unbind", unbound, 1);
        QueueBroker dropped = four(6);
        dropped.drop(1);
        room(check, "after a drop", dropped, 12);
        QueueBroker crashed = four(6);
        crashed.crash();
        check.due("exchange 0 and queue 0 are durable", crashed.count(4, 0), 6);
        room(check, "after a crash", crashed, 18);
    }
}
