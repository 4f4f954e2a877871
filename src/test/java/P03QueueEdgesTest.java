/** Promise 3: queue, sentence by sentence. */
public final class P03QueueEdgesTest {
    private static final String PROMISE = "Promise 3";

    public static void main(String[] args) {
        Check check = new Check();
        numbers(check);
        limits(check);
        deadExchanges(check);
        soAlready(check);
        otherwise(check);
        durableOrNot(check);
        newOneIsEmpty(check);
        check.end();
    }

    private static void numbers(Check check) {
        check.sentence(PROMISE, "Declares the queue (0 .. 5)");
        int[] right = {0, 5};
        for (int q : right) {
            QueueBroker x = new QueueBroker();
            check.due("queue(" + q + ", 1, -1, true)", x.queue(q, 1, -1, true), 0);
            check.due("it is there", x.deliver(q), -5);
        }
        int[] wrong = {-1, 6};
        for (int q : wrong) {
            Later.unchanged(check, "queue(" + q + ", 1, 0, true)", -1, QueueBroker::new, x -> x.queue(q, 1, 0, true));
            Later.unchanged(check, "queue(" + q + ", 1, 0, true)", -1, Busy::broker, x -> x.queue(q, 1, 0, true));
        }
    }

    private static void limits(Check check) {
        check.sentence(PROMISE, "with the LIMIT (1 .. 12)");
        int[] right = {1, 2, 11, 12};
        for (int limit : right) {
            QueueBroker x = Check.toAll(1, limit, -1);
            check.due("it is so", x.queue(0, limit, -1, true), 0);
            Check.publish(x, 1, 14);
            check.due("copies, limit " + limit, x.count(0, 0), limit);
        }
        int[] wrong = {0, 13, -1};
        for (int limit : wrong) {
            Later.unchanged(check, "queue(4, " + limit + ", 0, true)", -1, Busy::broker, x -> x.queue(4, limit, 0, true));
            Later.unchanged(check, "queue(0, " + limit + ", 1, true)", -1, Busy::broker, x -> x.queue(0, limit, 1, true));
        }
    }

    private static void deadExchanges(Check check) {
        check.sentence(PROMISE, "DEAD exchange (-1 .. 4, declared or not)");
        for (int dead = -1; dead <= 4; dead++) {
            QueueBroker x = new QueueBroker();
            check.due("none is declared, dead " + dead, x.queue(0, 3, dead, true), 0);
            for (int e = 0; e <= 4; e++) {
                x.exchange(e, 1, true);
            }
            check.due("all are declared, the same queue", x.queue(0, 3, dead, true), 0);
            check.due("all are declared, another queue", x.queue(1, 3, dead, true), 0);
        }
        int[] wrong = {-2, 5};
        for (int dead : wrong) {
            Later.unchanged(check, "queue(4, 1, " + dead + ", true)", -1, Busy::broker, x -> x.queue(4, 1, dead, true));
            Later.unchanged(check, "queue(2, 2, " + dead + ", true)", -1, Busy::broker, x -> x.queue(2, 2, dead, true));
        }
    }

    private static void soAlready(Check check) {
        check.sentence(PROMISE, "DONE, also if it is so already");
        Later.unchanged(check, "queue(0, 3, 1, true) again", 0, Busy::broker, x -> x.queue(0, 3, 1, true));
        Later.unchanged(check, "queue(1, 12, 2, false) again", 0, Busy::broker, x -> x.queue(1, 12, 2, false));
        Later.unchanged(check, "queue(2, 2, -1, true) again", 0, Busy::broker, x -> x.queue(2, 2, -1, true));
        Later.unchanged(check, "queue(3, 1, 3, true) again", 0, Busy::broker, x -> x.queue(3, 1, 3, true));
    }

    private static void otherwise(Check check) {
        check.sentence(PROMISE, "declared otherwise: STATE");
        QueueBroker x = new QueueBroker();
        x.queue(4, 6, 2, true);
        for (int limit = 1; limit <= 12; limit++) {
            for (int dead = -1; dead <= 4; dead++) {
                boolean same = limit == 6 && dead == 2;
                check.due("limit " + limit + ", dead " + dead, x.queue(4, limit, dead, true), same ? 0 : -3);
                check.due("not durable, limit " + limit + ", dead " + dead, x.queue(4, limit, dead, false), -3);
            }
        }
        Later.unchanged(check, "a lower limit", -3, Busy::broker, y -> y.queue(0, 2, 1, true));
        Later.unchanged(check, "a higher limit", -3, Busy::broker, y -> y.queue(0, 4, 1, true));
        Later.unchanged(check, "no dead exchange", -3, Busy::broker, y -> y.queue(0, 3, -1, true));
        Later.unchanged(check, "a dead exchange", -3, Busy::broker, y -> y.queue(2, 2, 0, true));
        Later.unchanged(check, "not durable", -3, Busy::broker, y -> y.queue(0, 3, 1, false));
        Later.unchanged(check, "durable", -3, Busy::broker, y -> y.queue(1, 12, 2, true));
    }

    private static void durableOrNot(Check check) {
        check.sentence(PROMISE, "durable or not");
        for (int q = 0; q <= 5; q++) {
            QueueBroker x = new QueueBroker();
            x.queue(q, 3, 0, true);
            x.queue((q + 1) % 6, 3, 0, false);
            x.crash();
            check.due("the durable one is there", x.deliver(q), -5);
            check.due("the other isn't", x.deliver((q + 1) % 6), -1);
        }
    }

    private static void newOneIsEmpty(Check check) {
        check.sentence(PROMISE, "A new one is empty");
        for (int ending = 0; ending < 2; ending++) {
            QueueBroker x = new QueueBroker();
            x.exchange(0, 1, true);
            x.queue(0, 12, 0, false);
            x.bind(0, 0, 0);
            x.consume(1, 0, false);
            for (int body = 1; body <= 12; body++) {
                x.publish(0, 0, 0, body, 1);
            }
            Check.deliver(x, 0, 6);
            if (ending == 0) {
                check.due("drop", x.drop(0), 12);
            } else {
                check.due("crash", x.crash(), 0);
            }
            check.due("a new one", x.queue(0, 12, 0, false), 0);
            check.bodies("a new one", x, 0);
            check.due("its consumers", x.count(1, 0), 0);
            check.due("its bindings", x.count(4, 0), 0);
            check.due("deliver", x.deliver(0), -5);
            check.due("held", x.count(2, 1), 0);
            check.due("drop finds nothing", x.drop(0), 0);
        }
    }
}
