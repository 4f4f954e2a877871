/** Promise 5: unbind, sentence by sentence. */
public final class P05UnbindEdgesTest {
    private static final String PROMISE = "Promise 5";

    public static void main(String[] args) {
        Check check = new Check();
        takesItAway(check);
        everyOneOfTwentyFour(check);
        declaredNumbers(check);
        mustBeAPattern(check);
        notThere(check);
        check.end();
    }

    private static QueueBroker full() {
        QueueBroker x = new QueueBroker();
        x.exchange(0, 0, true);
        x.exchange(1, 0, true);
        x.queue(0, 12, -1, true);
        x.queue(1, 12, -1, true);
        for (int n = 0; n < 24; n++) {
            x.bind(n / 12, n / 6 % 2, 0x11 + n % 6);
        }
        return x;
    }

    private static void takesItAway(Check check) {
        check.sentence(PROMISE, "Takes the binding away");
        QueueBroker x = new QueueBroker();
        x.exchange(0, 1, true);
        x.queue(0, 12, -1, true);
        int[] patterns = {0, 0xf, 0x12345678, 0xffffffff};
        for (int pattern : patterns) {
            x.bind(0, 0, pattern);
            check.due("bound", x.publish(0, 0, 0x1, 1, 2), 1);
            check.due("unbind(0, 0, " + pattern + ")", x.unbind(0, 0, pattern), 0);
            check.due("bindings", x.count(4, 0), 0);
            check.due("not bound", x.publish(0, 0, 0x1, 1, 2), -4);
        }
        x.bind(0, 0, 0x1);
        x.bind(0, 0, 0x2);
        x.unbind(0, 0, 0x1);
        check.due("another one still joins them", x.publish(0, 0, 0x1, 1, 2), 1);
    }

    private static void everyOneOfTwentyFour(Check check) {
        check.sentence(PROMISE, "Takes the binding away: that one of 24 and no other");
        for (int gone = 0; gone < 24; gone++) {
            QueueBroker x = full();
            check.due("unbind of " + gone, x.unbind(gone / 12, gone / 6 % 2, 0x11 + gone % 6), 0);
            for (int n = 0; n < 24; n++) {
                check.due("then of " + n, x.unbind(n / 12, n / 6 % 2, 0x11 + n % 6), n == gone ? -3 : 0);
            }
            check.due("bindings of 0", x.count(4, 0), 0);
            check.due("bindings of 1", x.count(4, 1), 0);
            check.due("there is room", x.bind(0, 0, 0x11), 0);
        }
    }

    private static void declaredNumbers(Check check) {
        check.sentence(PROMISE, "an exchange or queue that isn't declared where it must be: REFUSED");
        int[] exchanges = {-1, 3, 4, 5};
        for (int e : exchanges) {
            Later.unchanged(check, "unbind(" + e + ", 0, 0x12)", -1, Busy::broker, x -> x.unbind(e, 0, 0x12));
        }
        int[] queues = {-1, 4, 5, 6};
        for (int q : queues) {
            Later.unchanged(check, "unbind(0, " + q + ", 0x12)", -1, Busy::broker, x -> x.unbind(0, q, 0x12));
        }
        QueueBroker x = new QueueBroker();
        x.exchange(4, 0, true);
        x.queue(5, 1, -1, true);
        x.bind(4, 5, 0);
        check.due("the last ones", x.unbind(4, 5, 0), 0);
    }

    private static void mustBeAPattern(Check check) {
        check.sentence(PROMISE, "pattern must be a PATTERN");
        int[] wrong = {0x10, 0x120, 0x102, 0x80000000, 0xfffffff0, 0xf0000000};
        for (int pattern : wrong) {
            Later.unchanged(check, "unbind(0, 0, " + pattern + ")", -1, Busy::broker, x -> x.unbind(0, 0, pattern));
        }
    }

    private static void notThere(Check check) {
        check.sentence(PROMISE, "It isn't there: STATE");
        Later.unchanged(check, "another pattern", -3, Busy::broker, x -> x.unbind(0, 0, 0x13));
        Later.unchanged(check, "a longer pattern", -3, Busy::broker, x -> x.unbind(0, 0, 0x112));
        Later.unchanged(check, "a pattern that would match", -3, Busy::broker, x -> x.unbind(0, 0, 0xf));
        Later.unchanged(check, "another queue", -3, Busy::broker, x -> x.unbind(0, 1, 0x12));
        Later.unchanged(check, "another exchange", -3, Busy::broker, x -> x.unbind(1, 0, 0x12));
        Later.unchanged(check, "with 24 others", -3, Busy::fullyBound, x -> x.unbind(1, 0, 0xd9));
        QueueBroker x = new QueueBroker();
        x.exchange(0, 0, true);
        x.queue(0, 1, -1, true);
        check.due("none at all", x.unbind(0, 0, 0), -3);
        x.bind(0, 0, 0);
        check.due("once", x.unbind(0, 0, 0), 0);
        check.due("twice", x.unbind(0, 0, 0), -3);
        x.bind(0, 0, 0x1);
        x.drop(0);
        x.queue(0, 1, -1, true);
        check.due("gone with its queue", x.unbind(0, 0, 0x1), -3);
    }
}
