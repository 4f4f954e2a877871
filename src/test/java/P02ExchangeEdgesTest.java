/** Promise 2: exchange, sentence by sentence. */
public final class P02ExchangeEdgesTest {
    private static final String PROMISE = "Promise 2";

    public static void main(String[] args) {
        Check check = new Check();
        numbers(check);
        types(check);
        soAlready(check);
        otherwise(check);
        durableOrNot(check);
        check.end();
    }

    private static void numbers(Check check) {
        check.sentence(PROMISE, "the exchange (0 .. 4)");
        int[] right = {0, 4};
        for (int e : right) {
            check.due("exchange(" + e + ", 0, true)", new QueueBroker().exchange(e, 0, true), 0);
        }
        int[] wrong = {-1, 5};
        for (int e : wrong) {
            Later.unchanged(check, "exchange(" + e + ", 0, true)", -1, QueueBroker::new, x -> x.exchange(e, 0, true));
            Later.unchanged(check, "exchange(" + e + ", 0, true)", -1, Busy::broker, x -> x.exchange(e, 0, true));
        }
    }

    private static void types(Check check) {
        check.sentence(PROMISE, "with the type (0 .. 2)");
        for (int type = 0; type <= 2; type++) {
            QueueBroker x = new QueueBroker();
            check.due("exchange(3, " + type + ", true)", x.exchange(3, type, true), 0);
            x.queue(0, 12, -1, true);
            x.bind(3, 0, 0x1);
            x.bind(3, 0, 0xe2);
            check.due("the same key", x.publish(0, 3, 0x1, 1, 0), 1);
            check.due("a key that a pattern matches", x.publish(0, 3, 0x12, 1, 0), type == 0 ? 0 : 1);
            check.due("another key", x.publish(0, 3, 0x3, 1, 0), type == 1 ? 1 : 0);
        }
        int[] wrong = {-1, 3};
        for (int type : wrong) {
            Later.unchanged(check, "exchange(3, " + type + ", true)", -1, Busy::broker, x -> x.exchange(3, type, true));
            Later.unchanged(check, "exchange(0, " + type + ", true)", -1, Busy::broker, x -> x.exchange(0, type, true));
        }
    }

    private static void soAlready(Check check) {
        check.sentence(PROMISE, "DONE, also if it is so already");
        Later.unchanged(check, "exchange(0, 0, true) again", 0, Busy::broker, x -> x.exchange(0, 0, true));
        Later.unchanged(check, "exchange(1, 1, false) again", 0, Busy::broker, x -> x.exchange(1, 1, false));
        Later.unchanged(check, "exchange(2, 2, true) again", 0, Busy::broker, x -> x.exchange(2, 2, true));
        for (int type = 0; type <= 2; type++) {
            QueueBroker x = new QueueBroker();
            for (int n = 0; n < 3; n++) {
                check.due("exchange(4, " + type + ", true)", x.exchange(4, type, true), 0);
                check.due("exchange(0, " + type + ", false)", x.exchange(0, type, false), 0);
            }
        }
    }

    private static void otherwise(Check check) {
        check.sentence(PROMISE, "declared otherwise: STATE");
        for (int form = 0; form < 6; form++) {
            int type = form / 2;
            boolean durable = form % 2 == 0;
            QueueBroker x = new QueueBroker();
            x.exchange(2, type, durable);
            for (int other = 0; other < 6; other++) {
                check.due("declared as " + form + ", then as " + other, x.exchange(2, other / 2, other % 2 == 0),
                        other == form ? 0 : -3);
            }
        }
        Later.unchanged(check, "another type", -3, Busy::broker, x -> x.exchange(2, 1, true));
        Later.unchanged(check, "not durable", -3, Busy::broker, x -> x.exchange(0, 0, false));
        Later.unchanged(check, "durable", -3, Busy::broker, x -> x.exchange(1, 1, true));
    }

    private static void durableOrNot(Check check) {
        check.sentence(PROMISE, "durable or not");
        for (int e = 0; e <= 4; e++) {
            QueueBroker x = new QueueBroker();
            x.exchange(e, 2, true);
            x.exchange((e + 1) % 5, 2, false);
            x.crash();
            check.due("the durable one is there", x.exchange(e, 1, true), -3);
            check.due("the other is free, otherwise", x.exchange((e + 1) % 5, 1, true), 0);
        }
    }
}
