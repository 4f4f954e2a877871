/** Promise 17: crash, sentence by sentence. */
public final class P17CrashEdgesTest {
    private static final String PROMISE = "Promise 17";

    public static void main(String[] args) {
        Check check = new Check();
        nothingThere(check);
        channelsAreClosed(check);
        exchangesGo(check);
        queuesGo(check);
        withTheirBindings(check);
        persistentStay(check);
        heldOnesToo(check);
        noLetters(check);
        howManyAreLeft(check);
        twice(check);
        check.end();
    }

    private static void nothingThere(Check check) {
        check.sentence(PROMISE, "crash(): of a new object");
        Later.unchanged(check, "crash", 0, QueueBroker::new, x -> x.crash());
    }

    private static void channelsAreClosed(Check check) {
        check.sentence(PROMISE, "All channels are CLOSED, 0 first");
        QueueBroker x = Check.toAll(1, 12, 0);
        for (int c = 0; c <= 3; c++) {
            x.consume(c, 0, false);
            x.prefetch(c, 3);
        }
        for (int body = 1; body <= 12; body++) {
            x.publish(0, 0, 0x1, body, 1);
        }
        Check.deliver(x, 0, 12);
        for (int c = 0; c <= 3; c++) {
            x.begin(c);
            x.settle(c, 1, false, 2);
            x.publish(c, 0, 0x1, 50, 1);
        }
        check.due("crash", x.crash(), 12);
        check.bodies("all are back by places", x, 0, 1, 2, 3, 4, 5, 6, 7, 8, 9, 10, 11, 12);
        for (int c = 0; c <= 3; c++) {
            check.due("held", x.count(2, c), 0);
            check.due("mode", x.count(3, c), -1);
            check.due("row", x.count(7, c), -1);
            x.consume(c, 0, false);
            Check.deliver(x, 0, 12);
            check.due("prefetch 12", x.count(2, c), 12);
            check.due("tags from 1", x.held(c, 0, 5), 1);
            check.due("returned", x.held(c, 0, 3), 1);
            check.due("mark", x.held(c, 0, 7), 0);
            x.close(c);
        }
    }

    private static void exchangesGo(Check check) {
        check.sentence(PROMISE, "then exchanges .. that are not durable are declared no more");
        for (int set = 0; set < 32; set++) {
            QueueBroker x = new QueueBroker();
            for (int e = 0; e <= 4; e++) {
                x.exchange(e, 2, (set >> e & 1) == 1);
            }
            check.due("crash", x.crash(), 0);
            for (int e = 0; e <= 4; e++) {
                check.due("exchange " + e + " of set " + set, x.publish(0, e, 0x1, 1, 0), (set >> e & 1) == 1 ? 0 : -1);
                check.due("declared otherwise", x.exchange(e, 1, true), (set >> e & 1) == 1 ? -3 : 0);
            }
        }
    }

    private static void queuesGo(Check check) {
        check.sentence(PROMISE, "and queues that are not durable are declared no more, with their .. copies");
        for (int set = 0; set < 64; set++) {
            QueueBroker x = new QueueBroker();
            x.exchange(0, 1, true);
            for (int q = 0; q <= 5; q++) {
                x.queue(q, 2, 3, (set >> q & 1) == 1);
                x.bind(0, q, 0);
            }
            x.publish(0, 0, 0x1, 1, 1);
            check.due("crash, set " + set, x.crash(), Integer.bitCount(set));
            check.due("bindings", x.count(4, 0), Integer.bitCount(set));
            for (int q = 0; q <= 5; q++) {
                boolean stays = (set >> q & 1) == 1;
                check.due("copies of queue " + q, x.count(0, q), stays ? 1 : 0);
                check.due("deliver(" + q + ")", x.deliver(q), stays ? -6 : -1);
                check.due("the same again", x.queue(q, 2, 3, true), 0);
            }
        }
    }

    private static void withTheirBindings(Check check) {
        check.sentence(PROMISE, "with their bindings");
        QueueBroker x = new QueueBroker();
        x.exchange(0, 1, true);
        x.exchange(1, 1, false);
        x.queue(0, 12, -1, true);
        x.queue(1, 12, -1, false);
        for (int e = 0; e <= 1; e++) {
            for (int q = 0; q <= 1; q++) {
                x.bind(e, q, 0x1);
                x.bind(e, q, 0x2);
            }
        }
        x.crash();
        check.due("bindings of 0", x.count(4, 0), 2);
        check.due("bindings of 1", x.count(4, 1), 0);
        x.exchange(1, 1, false);
        x.queue(1, 12, -1, false);
        check.due("a new exchange has none", x.count(4, 1), 0);
        check.due("it chooses none", x.publish(0, 1, 0x1, 1, 2), -4);
        check.due("the old one chooses the old queue alone", x.publish(0, 0, 0x1, 1, 2), 1);
        check.due("those that stay can be taken away", x.unbind(0, 0, 0x2), 0);
        check.due("the others are gone", x.unbind(0, 1, 0x2), -3);
        for (int gone = 0; gone <= 4; gone++) {
            bindingsOf(check, gone, -1);
        }
        for (int gone = 0; gone <= 5; gone++) {
            bindingsOf(check, -1, gone);
        }
    }

    /** Of 24 bindings, the first to the last, those of an exchange or queue that isn't durable go and no other. */
    private static void bindingsOf(Check check, int goneExchange, int goneQueue) {
        QueueBroker x = new QueueBroker();
        for (int e = 0; e <= 4; e++) {
            x.exchange(e, 0, e != goneExchange);
        }
        for (int q = 0; q <= 5; q++) {
            x.queue(q, 12, -1, q != goneQueue);
        }
        for (int n = 0; n < 24; n++) {
            x.bind(n % 5, n % 6, 0x1);
        }
        x.crash();
        x.exchange(Math.max(goneExchange, 0), 0, goneExchange < 0);
        x.queue(Math.max(goneQueue, 0), 12, -1, goneQueue < 0);
        for (int n = 0; n < 24; n++) {
            boolean gone = n % 5 == goneExchange || n % 6 == goneQueue;
            check.due("binding " + n + " without exchange " + goneExchange + ", queue " + goneQueue,
                    x.unbind(n % 5, n % 6, 0x1), gone ? -3 : 0);
        }
        for (int e = 0; e <= 4; e++) {
            check.due("no other is there", x.count(4, e), 0);
        }
    }

    private static void persistentStay(Check check) {
        check.sentence(PROMISE, "then copies that are not PERSISTENT go");
        for (int set = 0; set < 64; set++) {
            QueueBroker x = Check.toAll(1, 12, 0);
            for (int n = 0; n < 6; n++) {
                x.publish(0, 0, 0x1, n, set >> n & 1);
            }
            check.due("crash, set " + set, x.crash(), Integer.bitCount(set));
            int at = 0;
            for (int n = 0; n < 6; n++) {
                if ((set >> n & 1) == 1) {
                    check.due("copy " + at, x.ready(0, at, 0), n);
                    at++;
                }
            }
            check.due("no other", x.count(0, 0), at);
        }
    }

    private static void heldOnesToo(Check check) {
        check.sentence(PROMISE, "All channels are CLOSED ..; then .. copies that are not PERSISTENT go: held ones too");
        QueueBroker x = Check.toAll(1, 2, 0);
        x.consume(0, 0, false);
        for (int body = 1; body <= 6; body++) {
            x.publish(1, 0, 0x1, body, body % 2);
            x.deliver(0);
        }
        x.publish(1, 0, 0x1, 7, 1);
        x.publish(1, 0, 0x1, 8, 0);
        check.due("crash", x.crash(), 4);
        check.bodies("above the limit", x, 0, 1, 3, 5, 7);
        check.due("returned", x.ready(0, 2, 3), 1);
        check.due("not returned", x.ready(0, 3, 3), 0);
        check.letters("none", x, 0, 0);
    }

    private static void noLetters(Check check) {
        check.sentence(PROMISE, "Nothing becomes a letter");
        QueueBroker x = Busy.broker();
        int routed = x.count(5, 0);
        int lost = x.count(6, 0);
        x.crash();
        check.letters("after the crash", x, routed, lost);
        x.publish(0, 0, 0x7, 1, 0);
        check.letters("after the next call", x, routed, lost);
    }

    private static void howManyAreLeft(Check check) {
        check.sentence(PROMISE, "Answers how many copies are left");
        for (int n = 0; n <= 12; n++) {
            QueueBroker x = Check.toAll(6, 12, -1);
            for (int body = 1; body <= n; body++) {
                x.publish(0, 0, 0x1, body, 1);
            }
            check.due(n + " in each of six queues", x.crash(), 6 * n);
        }
        QueueBroker held = Check.toAll(1, 12, -1);
        held.consume(0, 0, false);
        for (int body = 1; body <= 12; body++) {
            held.publish(0, 0, 0x1, body, 1);
        }
        Check.deliver(held, 0, 12);
        for (int body = 13; body <= 24; body++) {
            held.publish(0, 0, 0x1, body, 1);
        }
        check.due("held and ready", held.crash(), 24);
    }

    private static void twice(Check check) {
        check.sentence(PROMISE, "Answers how many copies are left: a second crash changes nothing");
        Later.unchanged(check, "crash", 5, () -> {
            QueueBroker x = Busy.broker();
            x.crash();
            return x;
        }, x -> x.crash());
    }
}
