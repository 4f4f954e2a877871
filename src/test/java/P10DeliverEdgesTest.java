/** Promise 10: deliver, sentence by sentence. */
public final class P10DeliverEdgesTest {
    private static final String PROMISE = "Promise 10";

    public static void main(String[] args) {
        Check check = new Check();
        declaredQueue(check);
        leastPlace(check);
        firstThatIsAble(check);
        toTheEndOfTheRow(check);
        noReadyCopy(check);
        noConsumerIsAble(check);
        emptyIsToldBeforeBlocked(check);
        automatic(check);
        nextTag(check);
        answersTheChannel(check);
        check.end();
    }

    private static void declaredQueue(Check check) {
        check.sentence(PROMISE, "a queue that isn't declared: REFUSED");
        int[] wrong = {-1, 4, 5, 6};
        for (int q : wrong) {
            Later.unchanged(check, "deliver(" + q + ")", -1, Busy::broker, x -> x.deliver(q));
        }
        for (int q = 0; q <= 5; q++) {
            QueueBroker x = new QueueBroker();
            check.due("not declared: " + q, x.deliver(q), -1);
            x.queue(q, 1, -1, true);
            check.due("declared: " + q, x.deliver(q), -5);
            x.drop(q);
            check.due("dropped: " + q, x.deliver(q), -1);
        }
    }

    private static void leastPlace(Check check) {
        check.sentence(PROMISE, "Delivers the queue's READY copy with the least PLACE");
        QueueBroker x = Check.toAll(1, 12, -1);
        x.consume(0, 0, false);
        Check.publish(x, 1, 12);
        for (int n = 1; n <= 12; n++) {
            x.deliver(0);
            check.due("delivered", x.held(0, n - 1, 0), n);
            check.due("left", x.count(0, 0), 12 - n);
            check.due("the first of those left", x.ready(0, 0, 0), n < 12 ? n + 1 : QueueBroker.NONE);
        }
        x.settle(0, 5, false, 1);
        x.settle(0, 3, false, 1);
        x.deliver(0);
        check.due("of two that came back", x.held(0, 10, 0), 3);
        x.deliver(0);
        check.due("then the other", x.held(0, 11, 0), 5);
    }

    private static void firstThatIsAble(Check check) {
        check.sentence(PROMISE, "to the first consumer in the row that is ABLE");
        for (int able = 0; able <= 3; able++) {
            QueueBroker x = Check.toAll(2, 12, -1);
            Check.publish(x, 1, 12);
            for (int c = 0; c <= 3; c++) {
                x.prefetch(c, 1);
                x.consume(c, 1, false);
            }
            Check.deliver(x, 1, 4);
            for (int c = 0; c <= 3; c++) {
                x.consume(c, 0, false);
            }
            check.due("none is able", x.deliver(0), -6);
            x.prefetch(able, 2);
            check.due("only " + able + " is able", x.deliver(0), able);
            check.due("none is able any more", x.deliver(0), -6);
            for (int n = 0; n < 3; n++) {
                check.due("the others keep their order", x.count(7, n), n < able ? n : n + 1);
            }
            check.due("it is the last", x.count(7, 3), able);
        }
    }

    private static void toTheEndOfTheRow(Check check) {
        check.sentence(PROMISE, "that one goes to the end of the row");
        for (int consumers = 1; consumers <= 4; consumers++) {
            QueueBroker x = Check.toAll(1, 12, -1);
            for (int c = 0; c < consumers; c++) {
                x.consume(c, 0, c % 2 == 0);
            }
            Check.publish(x, 1, 10);
            for (int n = 0; n < 10; n++) {
                check.due("delivery " + n + " to " + consumers, x.deliver(0), n % consumers);
                check.due("the last in the row", x.count(7, consumers - 1), n % consumers);
                check.due("the first in the row", x.count(7, 0), (n + 1) % consumers);
            }
        }
    }

    private static void noReadyCopy(Check check) {
        check.sentence(PROMISE, "No READY copy: EMPTY");
        Later.unchanged(check, "deliver(3)", -5, Busy::broker, x -> x.deliver(3));
        QueueBroker x = Check.toAll(1, 12, -1);
        x.consume(0, 0, false);
        check.due("a new queue", x.deliver(0), -5);
        Check.publish(x, 1, 1);
        check.due("one copy", x.deliver(0), 0);
        check.due("it is held", x.deliver(0), -5);
        x.settle(0, 1, false, 1);
        check.due("it came back", x.deliver(0), 0);
        x.settle(0, 2, false, 0);
        check.due("it is gone", x.deliver(0), -5);
    }

    private static void noConsumerIsAble(Check check) {
        check.sentence(PROMISE, "no consumer is ABLE: BLOCKED");
        Later.unchanged(check, "deliver(2)", -6, Busy::broker, x -> x.deliver(2));
        QueueBroker x = Check.toAll(1, 12, -1);
        Check.publish(x, 1, 6);
        check.due("no consumer", x.deliver(0), -6);
        for (int c = 0; c <= 3; c++) {
            x.prefetch(c, 1);
            x.consume(c, 0, false);
            check.due("one that is able", x.deliver(0), c);
            check.due("not any more", x.deliver(0), -6);
        }
        x.settle(2, 1, false, 0);
        check.due("it has room again", x.deliver(0), 2);
    }

    private static void emptyIsToldBeforeBlocked(Check check) {
        check.sentence(PROMISE, "No READY copy: EMPTY; no consumer is ABLE: BLOCKED (in this order)");
        QueueBroker x = Check.toAll(1, 12, -1);
        check.due("neither copy nor consumer", x.deliver(0), -5);
        x.prefetch(0, 1);
        x.consume(0, 0, false);
        Check.publish(x, 1, 1);
        x.deliver(0);
        check.due("neither copy nor room", x.deliver(0), -5);
        Check.publish(x, 2, 2);
        check.due("a copy, but no room", x.deliver(0), -6);
    }

    private static void automatic(Check check) {
        check.sentence(PROMISE, "AUTOMATIC: the copy goes");
        QueueBroker x = Check.toAll(1, 12, 0);
        x.consume(0, 0, true);
        Check.publish(x, 1, 12);
        for (int left = 11; left >= 0; left--) {
            check.due("deliver", x.deliver(0), 0);
            check.due("left", x.count(0, 0), left);
            check.due("held", x.count(2, 0), 0);
        }
        check.letters("no letters", x, 0, 0);
        x.close(0);
        check.bodies("nothing comes back", x, 0);
        check.due("nothing is left", x.drop(0), 0);
    }

    private static void nextTag(Check check) {
        check.sentence(PROMISE, "Else the channel HOLDS it under its next TAG");
        QueueBroker x = Check.toAll(1, 12, -1);
        x.consume(1, 0, false);
        for (int tag = 1; tag <= 40; tag++) {
            Check.publish(x, tag, tag);
            x.deliver(0);
            check.due("tag", x.held(1, 0, 5), tag);
            check.due("its body", x.held(1, 0, 0), tag);
            check.due("its queue", x.held(1, 0, 6), 0);
            x.settle(1, tag, false, tag % 2 * 2);
        }
        QueueBroker deed = Check.toAll(1, 12, -1);
        deed.consume(1, 0, false);
        Check.publish(deed, 1, 2);
        deed.deliver(0);
        deed.begin(1);
        deed.settle(1, 1, false, 0);
        deed.deliver(0);
        check.tags("in a transaction", deed, 1, 1, 2);
        check.due("a new copy is in no deed", deed.held(1, 1, 7), 0);
    }

    private static void answersTheChannel(Check check) {
        check.sentence(PROMISE, "Answers the channel");
        boolean[] kinds = {false, true};
        for (boolean automatic : kinds) {
            for (int c = 0; c <= 3; c++) {
                QueueBroker x = Check.toAll(1, 12, -1);
                x.consume(c, 0, automatic);
                Check.publish(x, 1, 1);
                check.due("channel " + c, x.deliver(0), c);
            }
        }
    }
}
