/** Promise 20: count, sentence by sentence. */
public final class P20CountEdgesTest {
    private static final String PROMISE = "Promise 20";
    private static final int WRONG = -1000;

    public static void main(String[] args) {
        Check check = new Check();
        readyCopies(check);
        consumers(check);
        heldCopies(check);
        deeds(check);
        bindings(check);
        letters(check);
        rowOfQueueZero(check);
        notDeclared(check);
        ranges(check);
        anotherWhat(check);
        changesNothing(check);
        check.end();
    }

    private static void readyCopies(Check check) {
        check.sentence(PROMISE, "READY copies of queue i (what 0)");
        for (int q = 0; q <= 5; q++) {
            QueueBroker x = new QueueBroker();
            x.exchange(0, 1, true);
            x.queue(q, 12, -1, true);
            x.bind(0, q, 0);
            for (int n = 0; n <= 12; n++) {
                check.due("queue " + q, x.count(0, q), n);
                Check.publish(x, n, n);
            }
            check.due("full", x.count(0, q), 12);
            x.consume(0, q, false);
            x.deliver(q);
            check.due("held ones don't count", x.count(0, q), 11);
            check.due("no other queue", x.count(0, (q + 1) % 6), 0);
        }
    }

    private static void consumers(Check check) {
        check.sentence(PROMISE, "consumers of queue i (1)");
        for (int q = 0; q <= 5; q++) {
            QueueBroker x = Check.toAll(6, 1, -1);
            for (int c = 0; c <= 3; c++) {
                check.due("queue " + q, x.count(1, q), c);
                x.consume(c, q, c % 2 == 0);
            }
            check.due("all four", x.count(1, q), 4);
            check.due("no other queue", x.count(1, (q + 1) % 6), 0);
        }
    }

    private static void heldCopies(Check check) {
        check.sentence(PROMISE, "copies that channel i HOLDS (2)");
        for (int c = 0; c <= 3; c++) {
            QueueBroker x = Check.toAll(2, 12, -1);
            Check.publish(x, 1, 6);
            x.consume(c, 0, false);
            x.consume(c, 1, false);
            for (int n = 0; n < 12; n++) {
                check.due("channel " + c, x.count(2, c), n);
                x.deliver(n % 2);
            }
            check.due("twelve, of two queues", x.count(2, c), 12);
            check.due("no other channel", x.count(2, (c + 1) % 4), 0);
            x.begin(c);
            x.settle(c, 0, true, 0);
            check.due("those of a deed too", x.count(2, c), 12);
        }
    }

    private static void deeds(Check check) {
        check.sentence(PROMISE, "DEEDS of channel i, -1 if it's in direct MODE (3)");
        for (int c = 0; c <= 3; c++) {
            QueueBroker x = Check.toAll(1, 12, -1);
            check.due("direct", x.count(3, c), -1);
            x.begin(c);
            for (int n = 0; n <= 4; n++) {
                check.due("deeds", x.count(3, c), n);
                x.publish(c, 0, 0x1, n, 0);
            }
            check.due("no fifth", x.count(3, c), 4);
            check.due("no other channel", x.count(3, (c + 1) % 4), -1);
            x.commit(c);
            check.due("after a commit", x.count(3, c), 0);
            x.close(c);
            check.due("after a close", x.count(3, c), -1);
        }
    }

    private static void bindings(Check check) {
        check.sentence(PROMISE, "bindings of exchange i (4)");
        for (int e = 0; e <= 4; e++) {
            QueueBroker x = new QueueBroker();
            for (int n = 0; n <= 4; n++) {
                x.exchange(n, 0, true);
            }
            x.queue(0, 1, -1, true);
            x.queue(5, 1, -1, true);
            for (int n = 0; n < 24; n++) {
                check.due("exchange " + e, x.count(4, e), n);
                x.bind(e, n % 2 * 5, 0x11 + n / 2);
            }
            check.due("all", x.count(4, e), 24);
            check.due("no other exchange", x.count(4, (e + 1) % 5), 0);
        }
    }

    private static void letters(Check check) {
        check.sentence(PROMISE, "letters so far that were routed (5, i any) and lost (6, i any)");
        QueueBroker x = Check.toAll(1, 12, 0);
        x.consume(0, 0, false);
        Check.publish(x, 1, 12);
        Check.deliver(x, 0, 12);
        x.settle(0, 5, true, 2);
        int[] any = {0, 1, 5, 6, -1, 1000, Integer.MIN_VALUE, Integer.MAX_VALUE};
        for (int i : any) {
            check.due("routed, i " + i, x.count(5, i), 3);
            check.due("lost, i " + i, x.count(6, i), 2);
        }
        x.settle(0, 0, true, 2);
        check.letters("so far", x, 6, 6);
        x.drop(0);
        check.letters("after a drop", x, 6, 6);
        x.crash();
        check.letters("after a crash", x, 6, 6);
    }

    private static void rowOfQueueZero(Check check) {
        check.sentence(PROMISE, "channel of consumer number i, from 0, in the row of queue 0 (7; -1 if there is none)");
        int[] order = {3, 1, 0, 2};
        for (int n = 0; n <= 4; n++) {
            QueueBroker x = Check.toAll(2, 12, -1);
            for (int c = 0; c <= 3; c++) {
                x.consume(c, 1, true);
            }
            for (int at = 0; at < n; at++) {
                x.consume(order[at], 0, true);
            }
            for (int i = 0; i <= 3; i++) {
                check.due("number " + i + " of " + n, x.count(7, i), i < n ? order[i] : -1);
            }
        }
        QueueBroker none = new QueueBroker();
        none.queue(1, 1, -1, true);
        none.consume(2, 1, false);
        for (int i = 0; i <= 3; i++) {
            check.due("queue 0 isn't declared", none.count(7, i), -1);
        }
    }

    private static void notDeclared(Check check) {
        check.sentence(PROMISE, "A queue or exchange that isn't declared counts as empty");
        QueueBroker x = new QueueBroker();
        QueueBroker gone = new QueueBroker();
        for (int e = 0; e <= 4; e++) {
            gone.exchange(e, 1, false);
        }
        for (int q = 0; q <= 5; q++) {
            gone.queue(q, 3, -1, q % 2 == 0);
            gone.consume(q % 4, q, true);
            gone.bind(q % 5, q, 0);
            gone.publish(0, q % 5, 0x1, q, 1);
        }
        for (int q = 0; q <= 5; q += 2) {
            gone.drop(q);
        }
        gone.crash();
        for (int i = 0; i <= 5; i++) {
            check.due("count(0, " + i + "), never declared", x.count(0, i), 0);
            check.due("count(1, " + i + "), never declared", x.count(1, i), 0);
            check.due("count(0, " + i + "), declared no more", gone.count(0, i), 0);
            check.due("count(1, " + i + "), declared no more", gone.count(1, i), 0);
        }
        for (int i = 0; i <= 4; i++) {
            check.due("count(4, " + i + "), never declared", x.count(4, i), 0);
            check.due("count(4, " + i + "), declared no more", gone.count(4, i), 0);
        }
    }

    private static void ranges(Check check) {
        check.sentence(PROMISE, "i must be 0 .. 5 for what 0 and 1, 0 .. 3 for 2, 3 and 7, 0 .. 4 for 4; else .. -1000");
        int[] highest = {5, 5, 3, 3, 4, 0, 0, 3};
        QueueBroker[] brokers = {new QueueBroker(), Busy.broker()};
        for (QueueBroker x : brokers) {
            for (int what = 0; what <= 7; what++) {
                if (what == 5 || what == 6) {
                    continue;
                }
                int[] wrong = {-1, highest[what] + 1, highest[what] + 2, Integer.MIN_VALUE, Integer.MAX_VALUE};
                for (int i : wrong) {
                    check.due("count(" + what + ", " + i + ")", x.count(what, i), WRONG);
                }
                int[] right = {0, highest[what]};
                for (int i : right) {
                    check.due("count(" + what + ", " + i + ") is one", x.count(what, i) >= -1 ? 1 : 0, 1);
                }
            }
        }
    }

    private static void anotherWhat(Check check) {
        check.sentence(PROMISE, "or with another what: -1000");
        int[] wrong = {-1, 8, 9, -1000, Integer.MIN_VALUE, Integer.MAX_VALUE};
        QueueBroker x = Busy.broker();
        for (int what : wrong) {
            for (int i = -1; i <= 6; i++) {
                check.due("count(" + what + ", " + i + ")", x.count(what, i), WRONG);
            }
        }
    }

    private static void changesNothing(Check check) {
        check.sentence(PROMISE, "count(): a getter");
        for (int what = -1; what <= 8; what++) {
            int kind = what;
            Later.unchanged(check, "count(" + what + ", 0)", Busy.broker().count(what, 0), Busy::broker,
                    x -> x.count(kind, 0));
        }
    }
}
