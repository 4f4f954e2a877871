/** Promise 8: consume. */
public final class P08ConsumeTest {
    public static void main(String[] args) {
        Check check = new Check();
        atTheEndOfTheRow(check);
        thereAlready(check);
        automaticOrNot(check);
        check.end();
    }

    private static void atTheEndOfTheRow(Check check) {
        QueueBroker x = Check.toAll(2, 12, -1);
        int[] order = {2, 0, 3, 1};
        for (int n = 0; n < 4; n++) {
            check.due("consume by channel " + order[n], x.consume(order[n], 0, n % 2 == 0), 0);
            check.due("consumers", x.count(1, 0), n + 1);
            check.due("the last in the row", x.count(7, n), order[n]);
        }
        check.due("the first in the row", x.count(7, 0), 2);
        check.due("consumers of the other queue", x.count(1, 1), 0);
        Check.publish(x, 1, 5);
        for (int n = 0; n < 5; n++) {
            check.due("delivery " + n, x.deliver(0), order[n % 4]);
        }
    }

    private static void thereAlready(Check check) {
        QueueBroker x = Check.toAll(2, 12, -1);
        x.consume(1, 0, false);
        check.leaves(x, "the same", -3, () -> x.consume(1, 0, false));
        check.leaves(x, "automatic", -3, () -> x.consume(1, 0, true));
        check.due("another queue", x.consume(1, 1, false), 0);
        check.due("another channel", x.consume(0, 0, false), 0);
        x.cancel(1, 0);
        check.due("after a cancel", x.consume(1, 0, true), 0);
        check.due("it is behind the other", x.count(7, 1), 1);
    }

    private static void automaticOrNot(Check check) {
        QueueBroker x = Check.toAll(1, 12, -1);
        Check.publish(x, 1, 2);
        x.consume(0, 0, true);
        x.consume(1, 0, false);
        Check.deliver(x, 0, 2);
        check.due("held by the automatic one", x.count(2, 0), 0);
        check.due("held by the other", x.count(2, 1), 1);
    }
}
