/** Terms: CHANNELS, CONSUMERS, SETTLING and CLOSING, at the edges. */
public final class TermsChannelsTest {
    private static final String TERMS = "Terms (promises 8 to 16)";

    public static void main(String[] args) {
        Check check = new Check();
        alwaysThere(check);
        prefetchTwelveAtFirst(check);
        fourDeeds(check);
        tagsInOrder(check);
        tagsAreOfEachChannel(check);
        rowInOrder(check);
        ableIfItHoldsFewer(check);
        copiesOfADeedAreHeld(check);
        ableIfAutomatic(check);
        accept(check);
        returnAtItsOldPlace(check);
        returnAboveTheLimit(check);
        reject(check);
        closing(check);
        check.end();
    }

    private static void alwaysThere(Check check) {
        check.sentence(TERMS, "CHANNELS 0 .. 3 are always there");
        for (int c = 0; c <= 3; c++) {
            QueueBroker x = new QueueBroker();
            check.due("held, new", x.count(2, c), 0);
            check.due("close, new", x.close(c), 0);
            check.due("close, closed", x.close(c), 0);
            check.due("prefetch, closed", x.prefetch(c, 1), 0);
            x.crash();
            check.due("begin, after a crash", x.begin(c), 0);
            check.due("commit", x.commit(c), 0);
        }
        int[] others = {-1, 4};
        for (int c : others) {
            Later.unchanged(check, "close(" + c + ")", -1, Busy::broker, x -> x.close(c));
            Later.unchanged(check, "begin(" + c + ")", -1, Busy::broker, x -> x.begin(c));
        }
    }

    private static void prefetchTwelveAtFirst(Check check) {
        check.sentence(TERMS, "A channel has a PREFETCH (1 .. 12), 12 at first");
        for (int c = 0; c <= 3; c++) {
            QueueBroker x = Check.toAll(1, 12, -1);
            x.consume(c, 0, false);
            for (int n = 1; n <= 12; n++) {
                Check.publish(x, n, n);
                check.due("copy " + n + " for channel " + c, x.deliver(0), c);
            }
            Check.publish(x, 13, 13);
            check.due("copy 13 for channel " + c, x.deliver(0), -6);
            check.due("held", x.count(2, c), 12);
        }
    }

    private static void fourDeeds(Check check) {
        check.sentence(TERMS, "in a transaction, at most 4 DEEDS");
        for (int mix = 0; mix < 32; mix++) {
            QueueBroker x = Check.toAll(1, 12, -1);
            x.consume(1, 0, false);
            Check.publish(x, 1, 6);
            Check.deliver(x, 0, 6);
            x.begin(1);
            for (int deed = 1; deed <= 5; deed++) {
                boolean publishes = (mix >> deed - 1 & 1) == 0;
                int answer = publishes ? x.publish(1, 0, 0x1, deed, 0) : x.settle(1, deed, false, 0);
                check.due("deed " + deed + " of mix " + mix, answer, deed <= 4 ? 100 : -2);
                check.due("deeds", x.count(3, 1), Math.min(deed, 4));
            }
            check.due("commit", x.commit(1), 4);
            check.due("room again", x.publish(1, 0, 0x1, 9, 0), 100);
        }
    }

    private static void tagsInOrder(Check check) {
        check.sentence(TERMS, "TAGS are 1, 2, .. in order of deliveries under a tag");
        QueueBroker x = Check.toAll(3, 12, -1);
        x.consume(0, 0, false);
        x.consume(0, 1, false);
        x.consume(0, 2, true);
        Check.publish(x, 1, 6);
        x.deliver(1);
        x.deliver(2);
        x.deliver(0);
        x.deliver(2);
        x.deliver(1);
        check.tags("deliveries by an automatic consumer take none", x, 0, 1, 2, 3);
        long[] queues = {1, 0, 1};
        for (int i = 0; i < 3; i++) {
            check.due("queue of tag " + (i + 1), x.held(0, i, 6), queues[i]);
        }
        x.settle(0, 0, true, 0);
        x.deliver(1);
        check.tags("a settled tag is not given again", x, 0, 4);
        x.settle(0, 4, false, 1);
        x.deliver(1);
        check.tags("nor to the copy that came back", x, 0, 5);
        x.drop(1);
        x.deliver(0);
        check.tags("nor after a drop", x, 0, 6);
    }

    private static void tagsAreOfEachChannel(Check check) {
        check.sentence(TERMS, "the copies that it HOLDS, each under a TAG");
        QueueBroker x = Check.toAll(1, 12, -1);
        for (int c = 0; c <= 3; c++) {
            x.consume(c, 0, false);
        }
        Check.publish(x, 1, 8);
        Check.deliver(x, 0, 8);
        for (int c = 0; c <= 3; c++) {
            check.tags("channel " + c, x, c, 1, 2);
            check.due("its second copy", x.held(c, 1, 0), 5 + c);
        }
    }

    private static void rowInOrder(Check check) {
        check.sentence(TERMS, "The CONSUMERS of a queue are in a row, in the order in which they came");
        int[][] orders = {{0, 1, 2, 3}, {3, 2, 1, 0}, {2, 0, 3, 1}};
        for (int[] order : orders) {
            QueueBroker x = Check.toAll(1, 12, -1);
            for (int n = 0; n < 4; n++) {
                check.due("place " + n + " before", x.count(7, n), -1);
                x.consume(order[n], 0, false);
                check.due("place " + n, x.count(7, n), order[n]);
            }
            Check.publish(x, 1, 9);
            for (int n = 0; n < 9; n++) {
                check.due("delivery " + n, x.deliver(0), order[n % 4]);
            }
        }
    }

    private static void ableIfItHoldsFewer(Check check) {
        check.sentence(TERMS, "or if its channel HOLDS fewer copies than its PREFETCH");
        for (int n = 1; n <= 12; n++) {
            QueueBroker x = Check.toAll(1, 12, -1);
            x.consume(0, 0, false);
            x.prefetch(0, n);
            Check.publish(x, 1, 12);
            for (int held = 0; held < n; held++) {
                check.due("prefetch " + n + ", holds " + held, x.deliver(0), 0);
            }
            Check.publish(x, 13, 13);
            check.due("prefetch " + n + ", holds " + n, x.deliver(0), -6);
            x.settle(0, 1, false, 0);
            check.due("prefetch " + n + ", holds one fewer again", x.deliver(0), 0);
            Check.publish(x, 14, 14);
            check.due("prefetch " + n + ", holds " + n + " again", x.deliver(0), -6);
            if (n > 1) {
                x.prefetch(0, n - 1);
                check.due("holds more than its prefetch", x.deliver(0), -6);
            }
        }
    }

    private static void copiesOfADeedAreHeld(Check check) {
        check.sentence(TERMS, "its channel HOLDS fewer copies than its PREFETCH: those that a DEED is to settle are held");
        for (int how = 0; how <= 2; how++) {
            QueueBroker x = Check.toAll(1, 12, -1);
            x.consume(0, 0, false);
            x.prefetch(0, 3);
            Check.publish(x, 1, 6);
            Check.deliver(x, 0, 3);
            x.begin(0);
            check.due("a deed for all", x.settle(0, 0, true, how), 100);
            check.due("no room before the commit", x.deliver(0), -6);
            x.commit(0);
            check.due("room after it", x.deliver(0), 0);
        }
    }

    private static void ableIfAutomatic(Check check) {
        check.sentence(TERMS, "it is ABLE if it is [AUTOMATIC]");
        QueueBroker x = Check.toAll(2, 12, -1);
        x.prefetch(0, 1);
        x.consume(0, 0, false);
        x.consume(0, 1, true);
        Check.publish(x, 1, 3);
        x.deliver(0);
        check.due("no room", x.deliver(0), -6);
        for (int n = 0; n < 3; n++) {
            check.due("automatic", x.deliver(1), 0);
        }
        check.due("nothing left", x.deliver(1), -5);
        check.tags("after it", x, 0, 1);
    }

    private static QueueBroker holding(int n, int limit, int dead) {
        QueueBroker x = Check.toAll(1, limit, dead);
        x.consume(0, 0, false);
        for (int body = 1; body <= n; body++) {
            Check.publish(x, body, body);
            x.deliver(0);
        }
        return x;
    }

    private static void accept(Check check) {
        check.sentence(TERMS, "0 ACCEPT: it goes");
        QueueBroker x = holding(1, 1, 0);
        x.settle(0, 1, false, 0);
        check.due("held", x.count(2, 0), 0);
        check.bodies("after it", x, 0);
        check.letters("after it", x, 0, 0);
        check.due("drop finds none", x.drop(0), 0);
    }

    private static void returnAtItsOldPlace(Check check) {
        check.sentence(TERMS, "1 RETURN: it's READY in its queue again, with its old PLACE, RETURNED");
        QueueBroker x = holding(3, 12, 0);
        Check.publish(x, 4, 5);
        x.settle(0, 2, false, 1);
        check.bodies("in front", x, 0, 2, 4, 5);
        check.due("returned", x.ready(0, 0, 3), 1);
        check.due("the next is not", x.ready(0, 1, 3), 0);
        x.settle(0, 3, false, 1);
        check.bodies("between", x, 0, 2, 3, 4, 5);
        x.settle(0, 1, false, 1);
        check.bodies("in front", x, 0, 1, 2, 3, 4, 5);
        x.consume(1, 0, true);
        x.cancel(0, 0);
        Check.deliver(x, 0, 5);
        QueueBroker last = holding(2, 12, 0);
        last.settle(0, 1, false, 1);
        last.settle(0, 2, false, 1);
        check.bodies("behind", last, 0, 1, 2);
    }

    private static void returnAboveTheLimit(Check check) {
        check.sentence(TERMS, "1 RETURN: .. (the LIMIT is not looked at)");
        for (int limit = 1; limit <= 12; limit++) {
            QueueBroker x = holding(12, limit, 0);
            Check.publish(x, 13, 12 + limit);
            for (int tag = 1; tag <= 12; tag++) {
                x.settle(0, tag, false, 1);
                check.due("ready, limit " + limit, x.count(0, 0), limit + tag);
            }
            check.letters("none was driven out", x, 0, 0);
        }
    }

    private static void reject(Check check) {
        check.sentence(TERMS, "2 REJECT: it goes and becomes a LETTER");
        QueueBroker lost = holding(1, 1, -1);
        lost.settle(0, 1, false, 2);
        check.due("held", lost.count(2, 0), 0);
        check.bodies("lost", lost, 0);
        check.letters("lost", lost, 0, 1);
        QueueBroker routed = holding(1, 1, 0);
        Check.publish(routed, 2, 2);
        routed.settle(0, 1, false, 2);
        check.letters("it drives out the other, and so on", routed, 3, 1);
        check.bodies("it drives out the other, and so on", routed, 0, 1);
    }

    private static void closing(Check check) {
        check.sentence(TERMS, "CLOSING a channel: .. and it is as at the beginning, with TAGS from 1");
        QueueBroker x = holding(3, 12, 0);
        x.prefetch(0, 3);
        x.begin(0);
        x.settle(0, 2, false, 2);
        x.publish(0, 0, 0x1, 9, 0);
        check.due("close", x.close(0), 0);
        check.bodies("settled by return, its deeds forgotten", x, 0, 1, 2, 3);
        check.letters("settled by return, its deeds forgotten", x, 0, 0);
        for (int i = 0; i < 3; i++) {
            check.due("returned", x.ready(0, i, 3), 1);
        }
        check.due("mode", x.count(3, 0), -1);
        check.due("consumers", x.count(1, 0), 0);
        x.consume(0, 0, false);
        Check.publish(x, 4, 12);
        Check.deliver(x, 0, 12);
        check.tags("prefetch 12, tags from 1", x, 0, 1, 2, 3, 4, 5, 6, 7, 8, 9, 10, 11, 12);
        check.due("none is marked", x.held(0, 1, 7), 0);
    }
}
