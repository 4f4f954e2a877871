/** Promise 9: cancel, sentence by sentence. */
public final class P09CancelEdgesTest {
    private static final String PROMISE = "Promise 9";

    public static void main(String[] args) {
        Check check = new Check();
        numbers(check);
        goesFromAnyPlace(check);
        theLastOneGoes(check);
        heldCopiesStay(check);
        none(check);
        check.end();
    }

    private static void numbers(Check check) {
        check.sentence(PROMISE, "The channel's consumer of the queue (0 .. 3; a queue that is declared)");
        for (int c = 0; c <= 3; c++) {
            for (int q = 0; q <= 5; q++) {
                QueueBroker x = Check.toAll(6, 1, -1);
                x.consume(c, q, false);
                check.due("cancel(" + c + ", " + q + ")", x.cancel(c, q), 0);
                check.due("consumers", x.count(1, q), 0);
            }
        }
        int[] channels = {-1, 4};
        for (int c : channels) {
            Later.unchanged(check, "cancel(" + c + ", 0)", -1, Busy::broker, x -> x.cancel(c, 0));
        }
        int[] queues = {-1, 4, 5, 6};
        for (int q : queues) {
            Later.unchanged(check, "cancel(0, " + q + ")", -1, Busy::broker, x -> x.cancel(0, q));
        }
    }

    private static void goesFromAnyPlace(Check check) {
        check.sentence(PROMISE, "The channel's consumer of the queue goes: DONE");
        for (int gone = 0; gone <= 3; gone++) {
            QueueBroker x = Check.toAll(2, 12, -1);
            for (int c = 0; c <= 3; c++) {
                x.consume(c, 0, true);
                x.consume(c, 1, true);
            }
            Check.publish(x, 1, 6);
            check.due("cancel(" + gone + ", 0)", x.cancel(gone, 0), 0);
            check.due("consumers", x.count(1, 0), 3);
            check.due("the fourth place", x.count(7, 3), -1);
            for (int n = 0; n < 6; n++) {
                int next = n % 3;
                check.due("delivery " + n, x.deliver(0), next < gone ? next : next + 1);
            }
            check.due("it still consumes the other queue", x.count(1, 1), 4);
        }
    }

    private static void theLastOneGoes(Check check) {
        check.sentence(PROMISE, "The channel's consumer of the queue goes: the last one too");
        QueueBroker x = Check.toAll(1, 12, -1);
        x.consume(2, 0, false);
        Check.publish(x, 1, 1);
        x.cancel(2, 0);
        check.due("row", x.count(7, 0), -1);
        check.due("deliver", x.deliver(0), -6);
        check.due("cancel again", x.cancel(2, 0), -3);
        x.consume(2, 0, false);
        check.due("consumes again", x.deliver(0), 2);
    }

    private static void heldCopiesStay(Check check) {
        check.sentence(PROMISE, "The channel's consumer goes: nothing else");
        QueueBroker x = Check.toAll(1, 12, -1);
        x.consume(2, 0, false);
        Check.publish(x, 1, 12);
        Check.deliver(x, 0, 12);
        x.begin(2);
        x.settle(2, 3, true, 0);
        x.cancel(2, 0);
        check.tags("after it", x, 2, 1, 2, 3, 4, 5, 6, 7, 8, 9, 10, 11, 12);
        check.due("its deed", x.count(3, 2), 1);
        check.due("commit", x.commit(2), 1);
        check.due("held", x.count(2, 2), 9);
    }

    private static void none(Check check) {
        check.sentence(PROMISE, "there is none: STATE");
        Later.unchanged(check, "cancel(1, 0)", -3, Busy::broker, x -> x.cancel(1, 0));
        Later.unchanged(check, "cancel(0, 1)", -3, Busy::broker, x -> x.cancel(0, 1));
        Later.unchanged(check, "cancel(2, 3), no copy", -3, Busy::broker, x -> x.cancel(2, 3));
        QueueBroker x = Check.toAll(1, 12, -1);
        for (int c = 0; c <= 3; c++) {
            check.due("no consumer at all", x.cancel(c, 0), -3);
        }
        x.consume(1, 0, true);
        x.close(1);
        check.due("gone by a close", x.cancel(1, 0), -3);
    }
}
