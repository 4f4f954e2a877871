/** Promise 15: rollback. */
public final class P15RollbackTest {
    public static void main(String[] args) {
        Check check = new Check();
        forgetsTheDeeds(check);
        check.end();
    }

    private static void forgetsTheDeeds(Check check) {
        QueueBroker x = Check.toAll(1, 12, 0);
        Check.publish(x, 1, 3);
        x.consume(1, 0, false);
        Check.deliver(x, 0, 2);
        x.begin(1);
        check.due("without deeds", x.rollback(1), 0);
        x.publish(1, 0, 0x1, 9, 0);
        x.settle(1, 1, false, 2);
        x.settle(1, 2, false, 0);
        check.due("with three", x.rollback(1), 3);
        check.due("no deeds", x.count(3, 1), 0);
        check.due("no mark", x.held(1, 0, 7), 0);
        check.due("no mark", x.held(1, 1, 7), 0);
        check.tags("all are held", x, 1, 1, 2);
        check.bodies("nothing was put", x, 0, 3);
        check.letters("nothing was rejected", x, 0, 0);
        check.due("a commit does nothing", x.commit(1), 0);
        check.bodies("nothing was put", x, 0, 3);
        check.due("they can be settled again", x.settle(1, 0, true, 1), 100);
        check.due("the mode stays", x.commit(1), 1);
        check.bodies("both are back", x, 0, 1, 2, 3);
        check.leaves(x, "begin", -3, () -> x.begin(1));
    }
}
