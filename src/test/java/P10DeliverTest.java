/** Promise 10: deliver. */
public final class P10DeliverTest {
    public static void main(String[] args) {
        Check check = new Check();
        leastPlaceFirst(check);
        theRowTurns(check);
        onlyAbleConsumers(check);
        automaticTakesNoTag(check);
        emptyBeforeBlocked(check);
        check.end();
    }

    private static void leastPlaceFirst(Check check) {
        QueueBroker x = Check.toAll(1, 12, -1);
        Check.publish(x, 1, 3);
        x.consume(0, 0, false);
        Check.deliver(x, 0, 2);
        check.due("first delivered", x.held(0, 0, 0), 1);
        check.due("second delivered", x.held(0, 1, 0), 2);
        check.bodies("left", x, 0, 3);
        x.settle(0, 2, false, 1);
        check.bodies("one is back", x, 0, 2, 3);
        x.deliver(0);
        check.due("it is delivered first", x.held(0, 1, 0), 2);
        check.due("as returned", x.held(0, 1, 3), 1);
        check.due("under the next tag", x.held(0, 1, 5), 3);
    }

    private static void theRowTurns(Check check) {
        QueueBroker x = Check.toAll(1, 12, -1);
        Check.publish(x, 1, 7);
        x.consume(3, 0, false);
        x.consume(1, 0, true);
        x.consume(2, 0, false);
        int[] due = {3, 1, 2, 3, 1, 2, 3};
        for (int channel : due) {
            check.due("deliver(0)", x.deliver(0), channel);
            check.due("it is the last in the row", x.count(7, 2), channel);
        }
    }

    private static void onlyAbleConsumers(Check check) {
        QueueBroker x = Check.toAll(2, 12, -1);
        Check.publish(x, 1, 8);
        x.prefetch(0, 1);
        x.prefetch(1, 2);
        x.consume(0, 0, false);
        x.consume(1, 0, false);
        x.consume(0, 1, false);
        check.due("1", x.deliver(0), 0);
        check.due("2", x.deliver(0), 1);
        check.due("3: channel 0 stands first but is full", x.deliver(0), 1);
        check.due("it stays first", x.count(7, 0), 0);
        check.due("4: both are full", x.deliver(0), -6);
        check.due("what it holds of another queue counts", x.deliver(1), -6);
        x.settle(0, 1, false, 0);
        check.due("5: it has room again", x.deliver(1), 0);
        check.due("6", x.deliver(0), -6);
        x.prefetch(0, 2);
        check.due("7: with a higher prefetch", x.deliver(0), 0);
        check.due("8", x.deliver(0), -6);
        x.consume(2, 0, true);
        check.due("9: automatic", x.deliver(0), 2);
    }

    private static void automaticTakesNoTag(Check check) {
        QueueBroker x = Check.toAll(2, 12, -1);
        Check.publish(x, 1, 5);
        x.consume(0, 0, true);
        x.consume(0, 1, false);
        x.prefetch(0, 1);
        check.due("automatic", x.deliver(0), 0);
        check.due("nothing is held", x.count(2, 0), 0);
        check.bodies("the copy is gone", x, 0, 2, 3, 4, 5);
        check.due("not automatic", x.deliver(1), 0);
        check.tags("the first tag", x, 0, 1);
        check.due("its queue", x.held(0, 0, 6), 1);
        check.due("automatic above the prefetch", x.deliver(0), 0);
        check.tags("no other tag", x, 0, 1);
        check.letters("no letters", x, 0, 0);
    }

    private static void emptyBeforeBlocked(Check check) {
        QueueBroker x = Check.toAll(1, 12, -1);
        check.leaves(x, "no copy, no consumer", -5, () -> x.deliver(0));
        x.consume(0, 0, false);
        check.leaves(x, "no copy", -5, () -> x.deliver(0));
        Check.publish(x, 1, 1);
        x.deliver(0);
        check.leaves(x, "a held copy is not ready", -5, () -> x.deliver(0));
        x.settle(0, 0, true, 1);
        x.cancel(0, 0);
        check.leaves(x, "no consumer", -6, () -> x.deliver(0));
    }
}
