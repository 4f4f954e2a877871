/** Promise 6: drop, sentence by sentence. */
public final class P06DropEdgesTest {
    private static final String PROMISE = "Promise 6";

    public static void main(String[] args) {
        Check check = new Check();
        declaredNoMore(check);
        notDeclared(check);
        bindingsGo(check);
        consumersGo(check);
        heldCopiesGoToo(check);
        tagsAreNoMoreThere(check);
        withoutLetters(check);
        howManyCopies(check);
        deedsOfGoneCopies(check);
        check.end();
    }

    private static void declaredNoMore(Check check) {
        check.sentence(PROMISE, "The queue is declared no more");
        for (int q = 0; q <= 5; q++) {
            QueueBroker x = Check.toAll(6, 3, 0);
            check.due("drop(" + q + ")", x.drop(q), 0);
            check.due("drop again", x.drop(q), -1);
            check.due("deliver", x.deliver(q), -1);
            check.due("consume", x.consume(0, q, true), -1);
            check.due("cancel", x.cancel(0, q), -1);
            check.due("bind", x.bind(0, q, 0), -1);
            check.due("unbind", x.unbind(0, q, 0), -1);
            check.due("ready copies", x.count(0, q), 0);
            check.due("the others are there", x.publish(0, 0, 0x1, 1, 0), 5);
            check.due("declared anew, otherwise", x.queue(q, 4, -1, false), 0);
        }
    }

    private static void notDeclared(Check check) {
        check.sentence(PROMISE, "a queue that isn't declared: REFUSED");
        int[] wrong = {-1, 4, 5, 6};
        for (int q : wrong) {
            Later.unchanged(check, "drop(" + q + ")", -1, Busy::broker, x -> x.drop(q));
        }
    }

    private static void bindingsGo(Check check) {
        check.sentence(PROMISE, "its bindings .. go");
        QueueBroker x = new QueueBroker();
        for (int e = 0; e <= 3; e++) {
            x.exchange(e, 2, true);
        }
        for (int q = 0; q <= 5; q++) {
            x.queue(q, 3, -1, true);
            for (int e = 0; e <= 3; e++) {
                x.bind(e, q, 0xf);
            }
        }
        int[] order = {0, 5, 3, 1, 4, 2};
        for (int n = 0; n < 6; n++) {
            check.due("drop", x.drop(order[n]), 0);
            for (int e = 0; e <= 3; e++) {
                check.due("bindings of " + e + " after " + (n + 1) + " drops", x.count(4, e), 5 - n);
            }
            check.due("declared anew it isn't bound", x.queue(order[n], 3, -1, true), 0);
        }
        check.due("no queue is chosen", x.publish(0, 0, 0x1, 1, 2), -4);
    }

    private static void consumersGo(Check check) {
        check.sentence(PROMISE, "its .. consumers .. go");
        QueueBroker x = Check.toAll(2, 12, -1);
        for (int c = 0; c <= 3; c++) {
            x.consume(c, 0, c % 2 == 0);
            x.consume(3 - c, 1, true);
        }
        check.due("drop(0)", x.drop(0), 0);
        x.queue(0, 12, -1, true);
        x.bind(0, 0, 0);
        check.due("consumers", x.count(1, 0), 0);
        check.due("row", x.count(7, 0), -1);
        check.due("consumers of the other", x.count(1, 1), 4);
        Check.publish(x, 1, 4);
        check.due("nobody is there", x.deliver(0), -6);
        for (int c = 3; c >= 0; c--) {
            check.due("the other's row", x.deliver(1), c);
        }
        check.due("consume again", x.consume(0, 0, false), 0);
    }

    /** Channels 0 and 1 consume both queues; each holds one copy of each. */
    private static QueueBroker heldOfTwo() {
        QueueBroker x = Check.toAll(2, 12, 0);
        Check.publish(x, 1, 3);
        for (int c = 0; c <= 1; c++) {
            x.consume(c, 0, false);
            x.consume(c, 1, false);
        }
        Check.deliver(x, 0, 2);
        Check.deliver(x, 1, 2);
        return x;
    }

    private static void heldCopiesGoToo(Check check) {
        check.sentence(PROMISE, "and copies go, those HELD too");
        QueueBroker x = heldOfTwo();
        check.due("drop(0)", x.drop(0), 3);
        check.tags("channel 0", x, 0, 2);
        check.tags("channel 1", x, 1, 2);
        check.due("of the other queue", x.held(0, 0, 6), 1);
        x.close(0);
        x.close(1);
        check.bodies("nothing comes back into the dropped queue", x, 0);
        check.bodies("the other queue", x, 1, 1, 2, 3);
        x.queue(0, 12, 0, true);
        check.bodies("nor into a new one", x, 0);
        QueueBroker full = Check.toAll(2, 12, 0);
        full.prefetch(0, 1);
        full.consume(0, 0, false);
        full.consume(0, 1, false);
        Check.publish(full, 1, 1);
        full.deliver(0);
        check.due("no room", full.deliver(1), -6);
        full.drop(0);
        check.due("room, for the held copy went", full.deliver(1), 0);
    }

    private static void tagsAreNoMoreThere(Check check) {
        check.sentence(PROMISE, "(their tags are no more there)");
        QueueBroker x = heldOfTwo();
        x.drop(0);
        for (int how = 0; how <= 2; how++) {
            check.due("settle of tag 1", x.settle(0, 1, false, how), -1);
            check.due("settle up to tag 1", x.settle(0, 1, true, how), -1);
        }
        check.due("settle up to tag 2", x.settle(0, 2, true, 0), 1);
        x.deliver(1);
        check.tags("the next tag", x, 0, 3);
    }

    private static void withoutLetters(Check check) {
        check.sentence(PROMISE, "without becoming letters");
        QueueBroker x = heldOfTwo();
        x.exchange(1, 1, true);
        x.drop(0);
        check.letters("after the drop", x, 0, 0);
        check.due("settle", x.settle(1, 2, false, 0), 1);
        check.letters("after the next call", x, 0, 0);
        check.bodies("after the next call", x, 1, 3);
    }

    private static void howManyCopies(Check check) {
        check.sentence(PROMISE, "Answers how many copies there were");
        check.due("none", Check.toAll(1, 12, -1).drop(0), 0);
        for (int held = 0; held <= 12; held++) {
            QueueBroker x = Check.toAll(1, 12, -1);
            x.consume(0, 0, false);
            Check.publish(x, 1, 12);
            Check.deliver(x, 0, held);
            check.due(held + " of 12 are held", x.drop(0), 12);
        }
        QueueBroker most = Check.toAll(1, 12, -1);
        for (int c = 0; c <= 3; c++) {
            most.consume(c, 0, false);
        }
        for (int body = 1; body <= 48; body++) {
            Check.publish(most, body, body);
            most.deliver(0);
        }
        Check.publish(most, 49, 60);
        check.due("as many as can be held and ready", most.drop(0), 60);
        for (int c = 0; c <= 3; c++) {
            check.due("held by " + c, most.count(2, c), 0);
        }
        QueueBroker accepted = Check.toAll(1, 12, -1);
        accepted.consume(0, 0, true);
        Check.publish(accepted, 1, 3);
        accepted.deliver(0);
        check.due("those that went before don't count", accepted.drop(0), 2);
    }

    private static void deedsOfGoneCopies(Check check) {
        check.sentence(PROMISE, "those HELD too: also those that a DEED is to settle");
        QueueBroker x = heldOfTwo();
        x.begin(0);
        x.settle(0, 0, true, 1);
        check.due("drop(0)", x.drop(0), 3);
        check.tags("after the drop", x, 0, 2);
        check.due("the deed is there", x.count(3, 0), 1);
        check.due("and has the other copy", x.held(0, 0, 7), 1);
        x.queue(0, 12, 0, true);
        check.due("commit", x.commit(0), 1);
        check.bodies("the new queue", x, 0);
        check.bodies("the other queue", x, 1, 1, 3);
    }
}
