/** Promise 13: begin. */
public final class P13BeginTest {
    public static void main(String[] args) {
        Check check = new Check();
        QueueBroker x = Check.toAll(1, 12, -1);
        check.due("direct at first", x.count(3, 2), -1);
        check.due("begin(2)", x.begin(2), 0);
        check.due("no deeds", x.count(3, 2), 0);
        check.due("another channel", x.count(3, 1), -1);
        check.leaves(x, "begin(2) again", -3, () -> x.begin(2));
        check.due("publish is noted", x.publish(2, 0, 1, 1, 0), 100);
        check.leaves(x, "begin(2) with a deed", -3, () -> x.begin(2));
        check.due("the other channel publishes", x.publish(1, 0, 1, 2, 0), 1);
        check.due("it can begin too", x.begin(1), 0);
        x.commit(2);
        check.leaves(x, "begin(2) after a commit", -3, () -> x.begin(2));
        x.rollback(2);
        check.leaves(x, "begin(2) after a rollback", -3, () -> x.begin(2));
        x.close(2);
        check.due("begin(2) after a close", x.begin(2), 0);
        check.due("no deeds", x.count(3, 2), 0);
        heldBefore(check);
        check.end();
    }

    private static void heldBefore(Check check) {
        QueueBroker x = Check.toAll(1, 12, -1);
        Check.publish(x, 1, 2);
        x.consume(0, 0, false);
        Check.deliver(x, 0, 2);
        x.begin(0);
        check.tags("what was held before is held", x, 0, 1, 2);
        check.due("no deed is to settle it", x.held(0, 0, 7), 0);
    }
}
