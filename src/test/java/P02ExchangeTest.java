/** Promise 2: exchange. */
public final class P02ExchangeTest {
    public static void main(String[] args) {
        Check check = new Check();
        declares(check);
        declaredOtherwise(check);
        check.end();
    }

    private static void declares(Check check) {
        for (int e = 0; e < 5; e++) {
            for (int type = 0; type < 3; type++) {
                QueueBroker x = new QueueBroker();
                check.due("exchange(" + e + ", " + type + ", true)", x.exchange(e, type, true), 0);
                check.due("the same again", x.exchange(e, type, true), 0);
                check.due("publish by it", x.publish(0, e, 1, 1, 0), 0);
            }
        }
        QueueBroker x = new QueueBroker();
        check.due("exchange(4, 1, false)", x.exchange(4, 1, false), 0);
        x.queue(0, 1, -1, true);
        x.bind(4, 0, 7);
        check.due("the same again", x.exchange(4, 1, false), 0);
        check.due("its binding stays", x.count(4, 4), 1);
    }

    private static void declaredOtherwise(Check check) {
        QueueBroker x = new QueueBroker();
        x.exchange(1, 1, true);
        check.leaves(x, "another type", -3, () -> x.exchange(1, 0, true));
        check.leaves(x, "a higher type", -3, () -> x.exchange(1, 2, true));
        check.leaves(x, "not durable", -3, () -> x.exchange(1, 1, false));
        check.due("as at first", x.exchange(1, 1, true), 0);
    }
}
