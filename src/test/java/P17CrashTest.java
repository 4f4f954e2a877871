/** Promise 17: crash. */
public final class P17CrashTest {
    public static void main(String[] args) {
        Check check = new Check();
        whatIsDurableStays(check);
        persistentCopiesStay(check);
        channelsAreClosed(check);
        countsAndPlacesGoOn(check);
        check.end();
    }

    private static void whatIsDurableStays(Check check) {
        QueueBroker x = new QueueBroker();
        x.exchange(0, 1, true);
        x.exchange(1, 1, false);
        x.queue(0, 12, 1, true);
        x.queue(1, 12, 0, false);
        for (int e = 0; e < 2; e++) {
            for (int q = 0; q < 2; q++) {
                x.bind(e, q, 0);
            }
        }
        check.due("publish", x.publish(0, 0, 0x1, 5, 1), 2);
        check.due("crash", x.crash(), 1);
        check.due("bindings of the durable exchange", x.count(4, 0), 1);
        check.due("bindings of the other", x.count(4, 1), 0);
        check.leaves(x, "publish by the exchange that is gone", -1, () -> x.publish(0, 1, 0x1, 5, 1));
        check.leaves(x, "deliver of the queue that is gone", -1, () -> x.deliver(1));
        check.bodies("the durable queue", x, 0, 5);
        check.bodies("the other", x, 1);
        check.letters("no letters", x, 0, 0);
        check.leaves(x, "the durable exchange is as it was", -3, () -> x.exchange(0, 1, false));
        check.leaves(x, "the durable queue is as it was", -3, () -> x.queue(0, 12, 0, true));
        check.due("the dead exchange is remembered", x.queue(0, 12, 1, true), 0);
        check.due("the other exchange is free", x.exchange(1, 2, true), 0);
        check.due("without bindings", x.count(4, 1), 0);
        check.due("the other queue is free", x.queue(1, 3, -1, true), 0);
        check.due("publish to the binding that stayed", x.publish(0, 0, 0x1, 6, 0), 1);
    }

    private static void persistentCopiesStay(Check check) {
        QueueBroker x = Check.toAll(2, 12, 0);
        for (int body = 1; body <= 6; body++) {
            x.publish(0, 0, 0x1, body, body % 3 == 0 ? 1 : 0);
        }
        check.due("crash", x.crash(), 4);
        check.bodies("queue 0", x, 0, 3, 6);
        check.bodies("queue 1", x, 1, 3, 6);
        check.due("persistent", x.ready(0, 0, 4), 1);
        check.due("not returned", x.ready(0, 0, 3), 0);
        check.due("a second crash", x.crash(), 4);
        check.letters("no letters", x, 0, 0);
        check.due("nothing at all", new QueueBroker().crash(), 0);
    }

    private static void channelsAreClosed(Check check) {
        QueueBroker x = Check.toAll(1, 2, 0);
        for (int c = 0; c < 4; c++) {
            x.consume(c, 0, false);
            x.prefetch(c, 1);
        }
        for (int body = 1; body <= 4; body++) {
            x.publish(0, 0, 0x1, body, body == 2 ? 0 : 1);
            x.deliver(0);
        }
        x.begin(0);
        x.settle(0, 1, false, 2);
        x.publish(0, 0, 0x1, 9, 1);
        check.due("crash", x.crash(), 3);
        check.bodies("above the limit, by places", x, 0, 1, 3, 4);
        for (int c = 0; c < 4; c++) {
            check.due("returned", x.ready(0, c, 3), c < 3 ? 1 : QueueBroker.NONE);
            check.due("held", x.count(2, c), 0);
            check.due("mode", x.count(3, c), -1);
            check.due("row", x.count(7, c), -1);
        }
        check.due("consumers", x.count(1, 0), 0);
        check.letters("no letters", x, 0, 0);
        x.consume(2, 0, false);
        Check.deliver(x, 0, 3);
        check.tags("prefetch 12 and tags from 1", x, 2, 1, 2, 3);
    }

    private static void countsAndPlacesGoOn(Check check) {
        QueueBroker x = Check.toAll(1, 2, 0);
        for (int body = 1; body <= 3; body++) {
            x.publish(0, 0, 0x1, body, 1);
        }
        check.letters("before", x, 3, 1);
        check.due("crash", x.crash(), 2);
        check.letters("after", x, 3, 1);
        check.bodies("each was driven round by the next", x, 0, 2, 3);
        x.publish(0, 0, 0x1, 77, 1);
        check.bodies("places go on above the old ones", x, 0, 3, 77);
        check.letters("at last", x, 6, 2);
    }
}
