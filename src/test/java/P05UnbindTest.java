/** Promise 5: unbind. */
public final class P05UnbindTest {
    public static void main(String[] args) {
        Check check = new Check();
        takesAway(check);
        notThere(check);
        wrongNumbers(check);
        check.end();
    }

    private static QueueBroker bound() {
        QueueBroker x = new QueueBroker();
        x.exchange(0, 0, true);
        x.exchange(1, 0, true);
        x.queue(0, 12, -1, true);
        x.queue(1, 12, -1, true);
        x.bind(0, 0, 1);
        x.bind(0, 0, 2);
        x.bind(0, 1, 1);
        x.bind(1, 0, 1);
        return x;
    }

    private static void takesAway(Check check) {
        QueueBroker x = bound();
        check.due("unbind(0, 0, 1)", x.unbind(0, 0, 1), 0);
        check.due("bindings of 0", x.count(4, 0), 2);
        check.due("bindings of 1", x.count(4, 1), 1);
        check.due("publish with its key", x.publish(0, 0, 1, 5, 0), 1);
        check.bodies("after it", x, 0);
        check.bodies("after it", x, 1, 5);
        check.due("publish with the other key", x.publish(0, 0, 2, 6, 0), 1);
        check.due("publish by the other exchange", x.publish(0, 1, 1, 7, 0), 1);
        check.bodies("after those", x, 0, 6, 7);
        check.due("bind again", x.bind(0, 0, 1), 0);
    }

    private static void notThere(Check check) {
        QueueBroker x = bound();
        check.leaves(x, "another pattern", -3, () -> x.unbind(0, 0, 3));
        check.leaves(x, "another queue", -3, () -> x.unbind(0, 1, 2));
        check.leaves(x, "another exchange", -3, () -> x.unbind(1, 0, 2));
        x.unbind(1, 0, 1);
        check.leaves(x, "a second time", -3, () -> x.unbind(1, 0, 1));
    }

    private static void wrongNumbers(Check check) {
        QueueBroker x = bound();
        int[] exchanges = {-1, 5, 2, Integer.MIN_VALUE, Integer.MAX_VALUE};
        for (int e : exchanges) {
            check.leaves(x, "unbind(" + e + ", 0, 1)", -1, () -> x.unbind(e, 0, 1));
        }
        int[] queues = {-1, 6, 2, Integer.MIN_VALUE, Integer.MAX_VALUE};
        for (int q : queues) {
            check.leaves(x, "unbind(0, " + q + ", 1)", -1, () -> x.unbind(0, q, 1));
        }
        int[] patterns = {0x10, 0x101, 0x80000000};
        for (int pattern : patterns) {
            check.leaves(x, "unbind(0, 0, " + pattern + ")", -1, () -> x.unbind(0, 0, pattern));
        }
    }
}
