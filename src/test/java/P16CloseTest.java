/** Promise 16: close. */
public final class P16CloseTest {
    public static void main(String[] args) {
        Check check = new Check();
        copiesComeBack(check);
        asAtTheBeginning(check);
        deedsAreForgotten(check);
        check.end();
    }

    private static void copiesComeBack(Check check) {
        QueueBroker x = Check.toAll(2, 2, 0);
        x.consume(1, 0, false);
        x.consume(1, 1, false);
        x.consume(2, 0, false);
        Check.publish(x, 1, 2);
        Check.deliver(x, 0, 2);
        x.deliver(1);
        Check.publish(x, 3, 3);
        check.bodies("before", x, 0, 3);
        check.due("close(1)", x.close(1), 0);
        check.bodies("queue 0", x, 0, 1, 3);
        check.due("returned", x.ready(0, 0, 3), 1);
        check.due("not returned", x.ready(0, 1, 3), 0);
        check.bodies("queue 1, above its limit", x, 1, 1, 2, 3);
        check.tags("the other channel", x, 2, 1);
        check.letters("no letters", x, 0, 0);
        check.due("consumers of queue 0", x.count(1, 0), 1);
        check.due("consumers of queue 1", x.count(1, 1), 0);
        check.due("the row", x.count(7, 0), 2);
    }

    private static void asAtTheBeginning(Check check) {
        QueueBroker x = Check.toAll(1, 12, 0);
        x.consume(1, 0, false);
        x.prefetch(1, 1);
        Check.publish(x, 1, 12);
        x.deliver(0);
        x.begin(1);
        check.due("close(1)", x.close(1), 0);
        check.due("mode", x.count(3, 1), -1);
        check.due("held", x.count(2, 1), 0);
        check.leaves(x, "no consumer", -6, () -> x.deliver(0));
        check.due("consume", x.consume(1, 0, false), 0);
        Check.deliver(x, 0, 12);
        check.tags("prefetch 12 and tags from 1", x, 1, 1, 2, 3, 4, 5, 6, 7, 8, 9, 10, 11, 12);
        check.due("close of a new channel", x.close(3), 0);
        check.due("twice", x.close(3), 0);
    }

    private static void deedsAreForgotten(Check check) {
        QueueBroker x = Check.toAll(1, 12, 0);
        x.consume(1, 0, false);
        Check.publish(x, 1, 2);
        Check.deliver(x, 0, 2);
        x.begin(1);
        x.publish(1, 0, 0x1, 9, 0);
        x.settle(1, 1, false, 2);
        x.settle(1, 2, false, 0);
        check.due("close(1)", x.close(1), 0);
        check.bodies("all are back", x, 0, 1, 2);
        check.letters("nothing was rejected", x, 0, 0);
        x.begin(1);
        check.due("no deeds", x.commit(1), 0);
        x.consume(1, 0, false);
        x.deliver(0);
        check.due("no mark", x.held(1, 0, 7), 0);
        check.due("it can be settled", x.settle(1, 1, false, 0), 100);
    }
}
