/** Promise 5: unbind. */
public final class P05UnbindTest {
    public static void main(String[] args) {
        Check check = new Check();
        takesAway(check);
        notThere(check);
        check.end();
    }

    private static QueueBroker bound() {
        QueueBroker x = new QueueBroker();
        x.exchange(0, 0, true);
        x.exchange(1, 0, true);
        x.queue(0, 12, -1, true);
        x.queue(1, 12, -1, true);
        x.bind(0, 0, 1);
        x.bind(0, 0, 2);
        x.bind(0, 1, 1);
        x.bind(1, 0, 1);
        return x;
    }

    private static void takesAway(Check check) {
        QueueBroker x = bound();
        check.due("unbind(0, 0, 1)", x.unbind(0, 0, 1), 0);
        check.due("bindings of 0", x.count(4, 0), 2);
        check.due("bindings of 1", x.count(4, 1), 1);
        check.due("publish with its key", x.publish(0, 0, 1, 5, 0), 1);
        check.bodies("after it", x, 0);
        check.bodies("after it", x, 1, 5);
        check.due("publish with the other key", x.publish(0, 0, 2, 6, 0), 1);
        check.due("publish by the other exchange", x.publish(0, 1, 1, 7, 0), 1);
        check.bodies("after those", x, 0, 6, 7);
        check.due("bind again", x.bind(0, 0, 1), 0);
    }

    private static void notThere(Check check) {
        QueueBroker x = bound();
        check.leaves(x, "another pattern", -3, () -> x.unbind(0, 0, 3));
        check.leaves(x, "another queue", -3, () -> x.unbind(0, 1, 2));
        check.leaves(x, "another exchange", -3, () -> x.unbind(1, 0, 2));
        x.unbind(1, 0, 1);
        check.leaves(x, "a second time", -3, () -> x.unbind(1, 0, 1));
    }
}
