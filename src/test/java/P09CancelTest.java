/** Promise 9: cancel. */
public final class P09CancelTest {
    public static void main(String[] args) {
        Check check = new Check();
        theConsumerGoes(check);
        heldCopiesStay(check);
        check.end();
    }

    private static void theConsumerGoes(Check check) {
        QueueBroker x = Check.toAll(2, 12, -1);
        for (int c = 0; c < 4; c++) {
            x.consume(c, 0, true);
            x.consume(c, 1, true);
        }
        check.due("cancel(1, 0)", x.cancel(1, 0), 0);
        check.due("consumers", x.count(1, 0), 3);
        check.due("consumers of the other queue", x.count(1, 1), 4);
        int[] row = {0, 2, 3, -1};
        for (int n = 0; n < 4; n++) {
            check.due("row " + n, x.count(7, n), row[n]);
        }
        check.leaves(x, "cancel(1, 0) again", -3, () -> x.cancel(1, 0));
        Check.publish(x, 1, 4);
        check.due("delivery 1", x.deliver(0), 0);
        check.due("delivery 2", x.deliver(0), 2);
        check.due("delivery 3", x.deliver(0), 3);
        x.cancel(0, 0);
        x.cancel(2, 0);
        x.cancel(3, 0);
        check.leaves(x, "delivery without a consumer", -6, () -> x.deliver(0));
    }

    private static void heldCopiesStay(Check check) {
        QueueBroker x = Check.toAll(1, 12, -1);
        Check.publish(x, 1, 3);
        x.consume(2, 0, false);
        Check.deliver(x, 0, 2);
        check.due("cancel", x.cancel(2, 0), 0);
        check.tags("after it", x, 2, 1, 2);
        x.consume(2, 0, false);
        x.deliver(0);
        check.tags("tags go on", x, 2, 1, 2, 3);
        check.due("settle", x.settle(2, 1, false, 0), 1);
    }
}
