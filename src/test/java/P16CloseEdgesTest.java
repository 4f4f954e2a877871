/** Promise 16: close, sentence by sentence. */
public final class P16CloseEdgesTest {
    private static final String PROMISE = "Promise 16";

    public static void main(String[] args) {
        Check check = new Check();
        channels(check);
        closedTwice(check);
        deedsAreForgotten(check);
        heldCopiesAreReturned(check);
        aboveTheLimit(check);
        consumersGo(check);
        asAtTheBeginning(check);
        othersStay(check);
        check.end();
    }

    /** Channel 1 holds bodies 1 .. n of queue 0. */
    private static QueueBroker holding(int n, int limit) {
        QueueBroker x = Check.toAll(1, limit, 0);
        x.consume(1, 0, false);
        for (int body = 1; body <= n; body++) {
            Check.publish(x, body, body);
            x.deliver(0);
        }
        return x;
    }

    private static void channels(Check check) {
        check.sentence(PROMISE, "CLOSES the channel (0 .. 3): DONE");
        for (int c = 0; c <= 3; c++) {
            QueueBroker x = Check.toAll(1, 12, 0);
            for (int other = 0; other <= 3; other++) {
                x.consume(other, 0, false);
                x.begin(other);
            }
            check.due("close(" + c + ")", x.close(c), 0);
            for (int other = 0; other <= 3; other++) {
                check.due("mode of " + other, x.count(3, other), other == c ? -1 : 0);
            }
            check.due("consumers", x.count(1, 0), 3);
        }
        int[] wrong = {-1, 4};
        for (int c : wrong) {
            Later.unchanged(check, "close(" + c + ")", -1, Busy::broker, x -> x.close(c));
        }
    }

    private static void closedTwice(Check check) {
        check.sentence(PROMISE, "CLOSES the channel: DONE, also if it is as at the beginning");
        for (int c = 0; c <= 3; c++) {
            int channel = c;
            Later.unchanged(check, "close(" + c + ") of a new object", 0, QueueBroker::new, x -> x.close(channel));
            Later.unchanged(check, "close(" + c + ") again", 0, () -> {
                QueueBroker x = Busy.broker();
                x.close(channel);
                return x;
            }, x -> x.close(channel));
        }
    }

    private static void deedsAreForgotten(Check check) {
        check.sentence("Promise 16 and terms", "its DEEDS are forgotten");
        for (int how = 0; how <= 2; how++) {
            QueueBroker x = holding(3, 12);
            x.begin(1);
            x.settle(1, 2, true, how);
            x.publish(1, 0, 0x1, 9, 0);
            check.due("close", x.close(1), 0);
            check.bodies("all are back, nothing was put", x, 0, 1, 2, 3);
            check.letters("none was rejected", x, 0, 0);
            x.begin(1);
            check.due("deeds", x.count(3, 1), 0);
            check.due("commit", x.commit(1), 0);
            check.bodies("all are there", x, 0, 1, 2, 3);
        }
    }

    private static void heldCopiesAreReturned(Check check) {
        check.sentence("Promise 16 and terms", "the copies that it HOLDS are settled by RETURN");
        for (int n = 0; n <= 12; n++) {
            QueueBroker x = holding(n, 12);
            Check.publish(x, 20, 20);
            check.due("close, holds " + n, x.close(1), 0);
            check.due("held", x.count(2, 1), 0);
            check.due("ready", x.count(0, 0), n + 1);
            for (int i = 0; i < n; i++) {
                check.due("by places", x.ready(0, i, 0), i + 1);
                check.due("returned", x.ready(0, i, 3), 1);
            }
            check.due("the last", x.ready(0, n, 0), 20);
            check.due("not returned", x.ready(0, n, 3), 0);
        }
    }

    private static void aboveTheLimit(Check check) {
        check.sentence("Promise 16 and terms", "settled by RETURN (the LIMIT is not looked at)");
        for (int limit = 1; limit <= 12; limit++) {
            QueueBroker x = holding(12, limit);
            Check.publish(x, 21, 20 + limit);
            check.due("close", x.close(1), 0);
            check.due("ready, limit " + limit, x.count(0, 0), 12 + limit);
            check.letters("none went", x, 0, 0);
        }
    }

    private static void consumersGo(Check check) {
        check.sentence("Promise 16 and terms", "its consumers go");
        for (int place = 0; place <= 3; place++) {
            QueueBroker x = Check.toAll(6, 12, 0);
            for (int n = 0; n <= 3; n++) {
                for (int q = 0; q <= 5; q++) {
                    x.consume((n + 4 - place) % 4, q, n % 2 == 0);
                }
            }
            check.due("channel 0 stands at", x.count(7, place), 0);
            x.close(0);
            for (int q = 0; q <= 5; q++) {
                check.due("consumers of queue " + q, x.count(1, q), 3);
                check.due("cancel(0, " + q + ")", x.cancel(0, q), -3);
            }
            for (int n = 0; n < 3; n++) {
                int stood = n < place ? n : n + 1;
                check.due("the others keep their order", x.count(7, n), (stood + 4 - place) % 4);
            }
        }
    }

    private static void asAtTheBeginning(Check check) {
        check.sentence("Promise 16 and terms", "and it is as at the beginning, with TAGS from 1");
        QueueBroker x = holding(2, 12);
        x.prefetch(1, 2);
        x.begin(1);
        x.close(1);
        check.due("mode", x.count(3, 1), -1);
        check.due("publish at once", x.publish(1, 0, 0x12, 3, 0), 1);
        x.consume(1, 0, false);
        Check.publish(x, 4, 12);
        for (int tag = 1; tag <= 12; tag++) {
            check.due("prefetch 12", x.deliver(0), 1);
            check.due("tag", x.held(1, tag - 1, 5), tag);
        }
        Check.publish(x, 13, 13);
        check.due("no more than 12", x.deliver(0), -6);
    }

    private static void othersStay(Check check) {
        check.sentence(PROMISE, "CLOSES the channel: no other");
        QueueBroker x = Check.toAll(1, 12, 0);
        x.consume(0, 0, false);
        x.consume(1, 0, false);
        x.prefetch(0, 2);
        Check.publish(x, 1, 6);
        Check.deliver(x, 0, 4);
        x.begin(0);
        x.settle(0, 1, false, 0);
        x.close(1);
        check.tags("held by the other", x, 0, 1, 2);
        check.due("its deed", x.count(3, 0), 1);
        check.due("its prefetch", x.deliver(0), -6);
        check.due("its commit", x.commit(0), 1);
        check.due("the first copy is back", x.ready(0, 0, 0), 2);
    }
}
