/** Promise 12: prefetch. */
public final class P12PrefetchTest {
    public static void main(String[] args) {
        Check check = new Check();
        setsTheLimit(check);
        twelveAtFirst(check);
        belowWhatIsHeld(check);
        check.end();
    }

    private static void setsTheLimit(Check check) {
        for (int n = 1; n <= 12; n++) {
            QueueBroker x = Check.toAll(1, 12, -1);
            x.consume(2, 0, false);
            check.due("prefetch(2, " + n + ")", x.prefetch(2, n), 0);
            check.due("the same again", x.prefetch(2, n), 0);
            for (int i = 0; i < n; i++) {
                Check.publish(x, i, i);
                check.due("delivery " + i, x.deliver(0), 2);
            }
            Check.publish(x, 99, 99);
            check.leaves(x, "one more than " + n, -6, () -> x.deliver(0));
        }
    }

    private static void twelveAtFirst(Check check) {
        for (int c = 0; c < 4; c++) {
            QueueBroker x = Check.toAll(1, 12, -1);
            x.prefetch((c + 1) % 4, 1);
            x.consume(c, 0, false);
            Check.publish(x, 1, 12);
            Check.deliver(x, 0, 12);
            check.due("held by channel " + c, x.count(2, c), 12);
            Check.publish(x, 13, 13);
            check.leaves(x, "number 13", -6, () -> x.deliver(0));
        }
    }

    private static void belowWhatIsHeld(Check check) {
        QueueBroker x = Check.toAll(1, 12, -1);
        x.consume(0, 0, false);
        Check.publish(x, 1, 5);
        Check.deliver(x, 0, 3);
        check.due("below what is held", x.prefetch(0, 2), 0);
        check.tags("all stay", x, 0, 1, 2, 3);
        x.settle(0, 1, false, 0);
        check.leaves(x, "still no room", -6, () -> x.deliver(0));
        x.settle(0, 2, false, 0);
        check.due("room", x.deliver(0), 0);
    }
}
