/** Promise 3: queue. */
public final class P03QueueTest {
    public static void main(String[] args) {
        Check check = new Check();
        declares(check);
        declaredOtherwise(check);
        limitsHold(check);
        newOneIsEmpty(check);
        check.end();
    }

    private static void declares(Check check) {
        for (int q = 0; q < 6; q++) {
            for (int dead = -1; dead < 5; dead++) {
                QueueBroker x = new QueueBroker();
                int number = q;
                int exchange = dead;
                check.due("queue " + q + " dead " + dead, x.queue(q, 1 + q, dead, true), 0);
                check.due("the same again", x.queue(q, 1 + q, dead, true), 0);
                check.leaves(x, "not durable", -3, () -> x.queue(number, 1 + number, exchange, false));
                check.due("no copy", x.deliver(q), -5);
            }
        }
    }

    private static void declaredOtherwise(Check check) {
        QueueBroker x = Check.toAll(1, 12, 0);
        Check.publish(x, 1, 3);
        check.due("the same again", x.queue(0, 12, 0, true), 0);
        check.bodies("the same again", x, 0, 1, 2, 3);
        check.leaves(x, "another limit", -3, () -> x.queue(0, 11, 0, true));
        check.leaves(x, "another dead exchange", -3, () -> x.queue(0, 12, 1, true));
        check.leaves(x, "no dead exchange", -3, () -> x.queue(0, 12, -1, true));
        check.leaves(x, "not durable", -3, () -> x.queue(0, 12, 0, false));
    }

    private static void limitsHold(Check check) {
        for (int limit = 1; limit <= 12; limit++) {
            QueueBroker x = Check.toAll(1, limit, -1);
            Check.publish(x, 1, limit);
            check.due("copies within the limit " + limit, x.count(0, 0), limit);
            Check.publish(x, limit + 1, limit + 1);
            check.due("copies above the limit " + limit, x.count(0, 0), limit);
            check.due("the first one", x.ready(0, 0, 0), 2);
            check.letters("above the limit " + limit, x, 0, 1);
        }
    }

    private static void newOneIsEmpty(Check check) {
        QueueBroker x = Check.toAll(1, 5, -1);
        Check.publish(x, 1, 2);
        x.consume(0, 0, false);
        x.drop(0);
        check.due("declared anew, otherwise", x.queue(0, 2, 4, false), 0);
        check.due("copies", x.count(0, 0), 0);
        check.due("consumers", x.count(1, 0), 0);
        check.due("bindings", x.count(4, 0), 0);
    }
}
