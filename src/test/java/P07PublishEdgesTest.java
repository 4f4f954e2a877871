/** Promise 7: publish, sentence by sentence. */
public final class P07PublishEdgesTest {
    private static final String PROMISE = "Promise 7";

    public static void main(String[] args) {
        Check check = new Check();
        channels(check);
        declaredExchange(check);
        keyIsAKey(check);
        anyBody(check);
        flags(check);
        fourDeeds(check);
        addedAsADeed(check);
        unrouted(check);
        notMandatory(check);
        hopsZero(check);
        lettersAreRouted(check);
        howManyWereChosen(check);
        check.end();
    }

    private static QueueBroker direct() {
        QueueBroker x = new QueueBroker();
        x.exchange(0, 0, true);
        x.queue(0, 12, -1, true);
        x.bind(0, 0, 0x1);
        return x;
    }

    private static void channels(Check check) {
        check.sentence(PROMISE, "channel 0 .. 3");
        for (int c = 0; c <= 3; c++) {
            check.due("channel " + c, direct().publish(c, 0, 0x1, 1, 0), 1);
        }
        int[] wrong = {-1, 4};
        for (int c : wrong) {
            Later.unchanged(check, "channel " + c, -1, Busy::broker, x -> x.publish(c, 0, 0x12, 1, 0));
        }
    }

    private static void declaredExchange(Check check) {
        check.sentence(PROMISE, "e declared");
        for (int e = 0; e <= 4; e++) {
            QueueBroker x = new QueueBroker();
            check.due("not declared: " + e, x.publish(0, e, 0x1, 1, 0), -1);
            x.exchange(e, 0, false);
            check.due("declared: " + e, x.publish(0, e, 0x1, 1, 0), 0);
            x.crash();
            check.due("no more declared: " + e, x.publish(0, e, 0x1, 1, 0), -1);
        }
        int[] wrong = {-1, 3, 4, 5};
        for (int e : wrong) {
            Later.unchanged(check, "exchange " + e, -1, Busy::broker, x -> x.publish(0, e, 0x12, 1, 0));
            Later.unchanged(check, "exchange " + e + " in a transaction", -1, Busy::broker,
                    x -> x.publish(1, e, 0x12, 1, 0));
        }
    }

    private static void keyIsAKey(Check check) {
        check.sentence(PROMISE, "key a KEY");
        int[] right = {0, 0x1, 0xd, 0x11, 0x7ddddddd, 0x81111111, 0xdddddddd};
        for (int key : right) {
            QueueBroker x = Check.toAll(1, 1, -1);
            check.due("key " + key, x.publish(0, 0, key, 1, 0), 1);
            check.due("it is the copy's", x.ready(0, 0, 1), key);
        }
        int[] wrong = {0xe, 0xf, 0x10, 0xe1, 0x1f, 0x101, 0x80000000, 0xeddddddd, 0xdddddddf, 0xffffffff};
        for (int key : wrong) {
            Later.unchanged(check, "key " + key, -1, Busy::broker, x -> x.publish(0, 1, key, 1, 0));
            Later.unchanged(check, "key " + key + " in a transaction", -1, Busy::broker, x -> x.publish(1, 1, key, 1, 0));
        }
    }

    private static void anyBody(Check check) {
        check.sentence(PROMISE, "int body: any is right");
        int[] bodies = {Integer.MIN_VALUE, -1000, -1, 0, 1, Integer.MAX_VALUE};
        for (int body : bodies) {
            QueueBroker x = direct();
            check.due("body " + body, x.publish(0, 0, 0x1, body, 0), 1);
            check.due("it is the copy's", x.ready(0, 0, 0), body);
        }
    }

    private static void flags(Check check) {
        check.sentence(PROMISE, "flags 0 .. 3 (1: PERSISTENT, 2: MANDATORY)");
        for (int flags = 0; flags <= 3; flags++) {
            QueueBroker x = direct();
            check.due("flags " + flags, x.publish(0, 0, 0x1, 1, flags), 1);
            check.due("persistent, flags " + flags, x.ready(0, 0, 4), flags & 1);
            check.due("no queue, flags " + flags, x.publish(0, 0, 0x2, 1, flags), flags >= 2 ? -4 : 0);
            check.due("what a crash leaves, flags " + flags, x.crash(), flags & 1);
        }
        int[] wrong = {-1, 4, 5, 7, -2};
        for (int flags : wrong) {
            Later.unchanged(check, "flags " + flags, -1, Busy::broker, x -> x.publish(0, 0, 0x12, 1, flags));
            Later.unchanged(check, "flags " + flags + " in a transaction", -1, Busy::broker,
                    x -> x.publish(1, 0, 0x12, 1, flags));
        }
    }

    private static void fourDeeds(Check check) {
        check.sentence(PROMISE, "In a transaction: it has 4 DEEDS: FULL");
        for (int c = 0; c <= 3; c++) {
            QueueBroker x = direct();
            x.begin(c);
            for (int n = 1; n <= 4; n++) {
                check.due("deed " + n, x.publish(c, 0, 0x1, n, 0), 100);
            }
            check.due("deed 5", x.publish(c, 0, 0x1, 5, 0), -2);
            check.due("deeds", x.count(3, c), 4);
            x.commit(c);
            check.bodies("four were put", x, 0, 1, 2, 3, 4);
            x.publish(c, 0, 0x1, 6, 0);
            check.due("room again", x.count(3, c), 1);
        }
        Later.unchanged(check, "publish(3, 0, 0x12, 1, 0)", -2, Busy::broker, x -> x.publish(3, 0, 0x12, 1, 0));
    }

    private static void addedAsADeed(Check check) {
        check.sentence(PROMISE, "else this is added as a DEED: NOTED");
        QueueBroker x = direct();
        x.begin(2);
        for (int flags = 0; flags <= 3; flags++) {
            check.due("no queue is chosen, flags " + flags, x.publish(2, 0, 0x2, 1, flags), 100);
        }
        check.due("nothing is put as yet", x.count(0, 0), 0);
        check.due("commit", x.commit(2), 4);
        check.due("no queue was chosen", x.count(0, 0), 0);
        QueueBroker y = direct();
        y.begin(2);
        y.publish(2, 0, 0x1, Integer.MIN_VALUE, 1);
        check.due("another channel puts at once", y.publish(1, 0, 0x1, 5, 0), 1);
        y.commit(2);
        check.bodies("after the commit", y, 0, 5, Integer.MIN_VALUE);
        check.due("persistent", y.ready(0, 1, 4), 1);
        check.due("key", y.ready(0, 1, 1), 0x1);
    }

    private static void unrouted(Check check) {
        check.sentence(PROMISE, "no queue is CHOSEN and it's MANDATORY: UNROUTED");
        Later.unchanged(check, "flags 2", -4, Busy::broker, x -> x.publish(0, 0, 0x7, 1, 2));
        Later.unchanged(check, "flags 3", -4, Busy::broker, x -> x.publish(2, 0, 0x7, 1, 3));
        check.due("one queue is chosen", direct().publish(0, 0, 0x1, 1, 2), 1);
        QueueBroker x = new QueueBroker();
        for (int type = 0; type <= 2; type++) {
            x.exchange(type, type, true);
            check.due("no binding, type " + type, x.publish(0, type, 0, 1, 2), -4);
        }
    }

    private static void notMandatory(Check check) {
        check.sentence(PROMISE, "no queue is CHOSEN: not MANDATORY: none");
        Later.unchanged(check, "flags 0", 0, Busy::broker, x -> x.publish(0, 0, 0x7, 1, 0));
        Later.unchanged(check, "flags 1", 0, Busy::broker, x -> x.publish(2, 0, 0x7, 1, 1));
    }

    private static void hopsZero(Check check) {
        check.sentence(PROMISE, "Else it's ROUTED with HOPS 0");
        QueueBroker x = Check.toAll(6, 12, 0);
        x.publish(0, 0, 0x1, 1, 0);
        for (int q = 0; q <= 5; q++) {
            check.due("hops", x.ready(q, 0, 2), 0);
            check.due("returned", x.ready(q, 0, 3), 0);
        }
    }

    private static void lettersAreRouted(Check check) {
        check.sentence(PROMISE, "and letters are routed");
        QueueBroker x = Check.toAll(1, 1, 1);
        x.exchange(1, 1, true);
        x.queue(1, 1, -1, true);
        x.bind(1, 1, 0);
        Check.publish(x, 1, 1);
        check.bodies("none as yet", x, 1);
        Check.publish(x, 2, 2);
        check.bodies("one", x, 1, 1);
        check.letters("one", x, 1, 0);
        Check.publish(x, 3, 3);
        check.bodies("it drove out the first", x, 1, 2);
        check.letters("it drove out the first", x, 2, 1);
    }

    private static void howManyWereChosen(Check check) {
        check.sentence(PROMISE, "Answers how many queues were CHOSEN");
        for (int n = 0; n <= 6; n++) {
            check.due(n + " queues", Check.toAll(n, 1, -1).publish(0, 0, 0x1, 1, 0), n);
            QueueBroker full = Check.toAll(n, 1, 0);
            Check.publish(full, 1, 1);
            check.due(n + " full queues, with letters", full.publish(0, 0, 0x1, 2, 0), n);
        }
        QueueBroker twice = direct();
        twice.exchange(1, 2, true);
        twice.bind(1, 0, 0xf);
        twice.bind(1, 0, 0x1);
        check.due("one queue by two bindings", twice.publish(0, 1, 0x1, 1, 0), 1);
    }
}
