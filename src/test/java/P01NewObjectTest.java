/** Promise 1: in a new object nothing is declared. The constants of the terms stand here too. */
public final class P01NewObjectTest {
    public static void main(String[] args) {
        Check check = new Check();
        constants(check);
        nothingIsDeclared(check);
        channelsAreAtTheBeginning(check);
        objectsAreApart(check);
        check.end();
    }

    private static void constants(Check check) {
        check.due("DONE", QueueBroker.DONE, 0);
        check.due("REFUSED", QueueBroker.REFUSED, -1);
        check.due("FULL", QueueBroker.FULL, -2);
        check.due("STATE", QueueBroker.STATE, -3);
        check.due("UNROUTED", QueueBroker.UNROUTED, -4);
        check.due("EMPTY", QueueBroker.EMPTY, -5);
        check.due("BLOCKED", QueueBroker.BLOCKED, -6);
        check.due("NOTED", QueueBroker.NOTED, 100);
        check.due("NONE", QueueBroker.NONE, -1000000000000L);
    }

    private static void nothingIsDeclared(Check check) {
        QueueBroker x = new QueueBroker();
        for (int e = 0; e < 5; e++) {
            check.due("publish by exchange " + e, x.publish(0, e, 1, 1, 0), -1);
            check.due("bindings of exchange " + e, x.count(4, e), 0);
        }
        for (int q = 0; q < 6; q++) {
            check.due("deliver of queue " + q, x.deliver(q), -1);
            check.due("drop of queue " + q, x.drop(q), -1);
            check.due("copies of queue " + q, x.count(0, q), 0);
            check.due("consumers of queue " + q, x.count(1, q), 0);
        }
        check.letters("new", x, 0, 0);
        check.due("crash", x.crash(), 0);
    }

    private static void channelsAreAtTheBeginning(Check check) {
        QueueBroker x = new QueueBroker();
        for (int c = 0; c < 4; c++) {
            check.due("copies of channel " + c, x.count(2, c), 0);
            check.due("deeds of channel " + c, x.count(3, c), -1);
            check.due("first consumers of queue 0", x.count(7, c), -1);
            check.due("prefetch of channel " + c, x.prefetch(c, 12), 0);
            check.due("close of channel " + c, x.close(c), 0);
        }
    }

    private static void objectsAreApart(Check check) {
        QueueBroker one = Check.toAll(2, 3, -1);
        Check.publish(one, 1, 2);
        QueueBroker other = new QueueBroker();
        check.due("copies in the other object", other.count(0, 0), 0);
        check.due("deliver in the other object", other.deliver(0), -1);
        check.due("new declaration in the other object", other.exchange(0, 2, false), 0);
        check.due("copies in the one object", one.count(0, 0), 2);
    }
}
