/** Promise 8: consume, sentence by sentence. */
public final class P08ConsumeEdgesTest {
    private static final String PROMISE = "Promise 8";

    public static void main(String[] args) {
        Check check = new Check();
        numbers(check);
        endOfTheRow(check);
        behindTheRowAsItStands(check);
        hasAConsumer(check);
        ofEachQueueOne(check);
        check.end();
    }

    private static void numbers(Check check) {
        check.sentence(PROMISE, "The channel consumes the queue (0 .. 3; a queue that is declared)");
        for (int c = 0; c <= 3; c++) {
            for (int q = 0; q <= 5; q++) {
                QueueBroker x = Check.toAll(6, 1, -1);
                check.due("consume(" + c + ", " + q + ")", x.consume(c, q, false), 0);
                Check.publish(x, 1, 1);
                check.due("deliver(" + q + ")", x.deliver(q), c);
                check.due("no other queue", x.deliver((q + 1) % 6), -6);
            }
        }
        int[] channels = {-1, 4};
        for (int c : channels) {
            Later.unchanged(check, "consume(" + c + ", 0, true)", -1, Busy::broker, x -> x.consume(c, 0, true));
        }
        int[] queues = {-1, 4, 5, 6};
        for (int q : queues) {
            Later.unchanged(check, "consume(1, " + q + ", false)", -1, Busy::broker, x -> x.consume(1, q, false));
        }
    }

    private static void endOfTheRow(Check check) {
        check.sentence(PROMISE, "at the end of the row: DONE");
        for (int before = 0; before <= 3; before++) {
            QueueBroker x = Check.toAll(1, 12, -1);
            for (int c = 0; c < before; c++) {
                x.consume(c, 0, true);
            }
            check.due("behind " + before, x.consume(3, 0, true), 0);
            check.due("its place", x.count(7, before), 3);
            check.due("consumers", x.count(1, 0), before + 1);
            check.due("nobody is behind it", x.count(7, 3), before == 3 ? 3 : -1);
        }
    }

    private static void behindTheRowAsItStands(Check check) {
        check.sentence(PROMISE, "at the end of the row: as it stands after deliveries");
        QueueBroker x = Check.toAll(1, 12, -1);
        x.consume(0, 0, true);
        x.consume(1, 0, true);
        Check.publish(x, 1, 5);
        x.deliver(0);
        x.consume(2, 0, true);
        int[] due = {1, 0, 2, 1};
        for (int channel : due) {
            check.due("delivery", x.deliver(0), channel);
        }
    }

    private static void hasAConsumer(Check check) {
        check.sentence(PROMISE, "It has a consumer of the queue: STATE");
        boolean[] kinds = {false, true};
        for (boolean automatic : kinds) {
            Later.unchanged(check, "consume(2, 0, ..)", -3, Busy::broker, x -> x.consume(2, 0, automatic));
            Later.unchanged(check, "consume(3, 0, ..)", -3, Busy::broker, x -> x.consume(3, 0, automatic));
            Later.unchanged(check, "consume(0, 3, ..)", -3, Busy::broker, x -> x.consume(0, 3, automatic));
        }
        QueueBroker x = Check.toAll(1, 12, -1);
        x.consume(1, 0, false);
        check.due("again", x.consume(1, 0, true), -3);
        x.cancel(1, 0);
        check.due("after a cancel", x.consume(1, 0, true), 0);
        check.due("again", x.consume(1, 0, true), -3);
        x.close(1);
        check.due("after a close", x.consume(1, 0, false), 0);
        x.crash();
        check.due("after a crash", x.consume(1, 0, false), 0);
        x.drop(0);
        x.queue(0, 1, -1, true);
        check.due("after a drop", x.consume(1, 0, false), 0);
    }

    private static void ofEachQueueOne(Check check) {
        check.sentence(PROMISE, "a consumer of the queue: one for each queue and channel");
        QueueBroker x = Check.toAll(6, 12, -1);
        for (int c = 0; c <= 3; c++) {
            for (int q = 0; q <= 5; q++) {
                check.due("consume(" + c + ", " + q + ")", x.consume(c, q, true), 0);
                check.due("again", x.consume(c, q, true), -3);
            }
        }
        for (int q = 0; q <= 5; q++) {
            check.due("consumers of queue " + q, x.count(1, q), 4);
        }
    }
}
