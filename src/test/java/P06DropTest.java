/** Promise 6: drop. */
public final class P06DropTest {
    public static void main(String[] args) {
        Check check = new Check();
        allOfItGoes(check);
        heldCopiesGo(check);
        deedsLoseTheirCopies(check);
        check.end();
    }

    private static void allOfItGoes(Check check) {
        QueueBroker x = Check.toAll(2, 4, 0);
        Check.publish(x, 1, 3);
        x.consume(1, 0, false);
        x.consume(1, 1, false);
        check.due("drop(0)", x.drop(0), 3);
        check.due("copies", x.count(0, 0), 0);
        check.due("consumers", x.count(1, 0), 0);
        check.due("first consumer", x.count(7, 0), -1);
        check.due("consumers of the other queue", x.count(1, 1), 1);
        check.due("bindings", x.count(4, 0), 1);
        check.bodies("the other queue", x, 1, 1, 2, 3);
        check.letters("after the drop", x, 0, 0);
        check.leaves(x, "drop(0) again", -1, () -> x.drop(0));
        check.leaves(x, "deliver(0)", -1, () -> x.deliver(0));
        check.due("publish goes to the other one alone", x.publish(0, 0, 1, 4, 0), 1);
        check.due("an empty queue", new QueueBroker().drop(0), -1);
        x.queue(0, 1, -1, false);
        check.due("drop of an empty queue", x.drop(0), 0);
    }

    private static void heldCopiesGo(Check check) {
        QueueBroker x = Check.toAll(2, 4, 0);
        Check.publish(x, 1, 4);
        x.consume(1, 0, false);
        x.consume(1, 1, false);
        x.consume(2, 0, false);
        x.deliver(0);
        x.deliver(1);
        x.deliver(0);
        x.deliver(0);
        check.tags("before", x, 1, 1, 2, 3);
        check.due("drop(0)", x.drop(0), 4);
        check.tags("after", x, 1, 2);
        check.tags("after", x, 2);
        check.leaves(x, "settle of a tag that is gone", -1, () -> x.settle(1, 1, false, 0));
        check.due("deliver(1) goes on with the tags", x.deliver(1), 1);
        check.tags("after the next delivery", x, 1, 2, 4);
        check.letters("after the drop", x, 0, 0);
    }

    private static void deedsLoseTheirCopies(Check check) {
        QueueBroker x = Check.toAll(2, 4, 0);
        Check.publish(x, 1, 2);
        x.consume(1, 0, false);
        x.consume(1, 1, false);
        x.begin(1);
        x.deliver(0);
        x.deliver(1);
        x.settle(1, 0, true, 1);
        check.due("drop(0)", x.drop(0), 2);
        check.due("the deed stays", x.count(3, 1), 1);
        check.due("a new queue 0", x.queue(0, 4, 0, true), 0);
        check.due("commit", x.commit(1), 1);
        check.bodies("the new queue", x, 0);
        check.bodies("the other queue", x, 1, 1, 2);
    }
}
