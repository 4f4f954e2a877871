/** Promise 18: ready, sentence by sentence. */
public final class P18ReadyEdgesTest {
    private static final String PROMISE = "Promise 18";
    private static final long NONE = QueueBroker.NONE;

    public static void main(String[] args) {
        Check check = new Check();
        fields(check);
        numbersFromZero(check);
        noSuchQueue(check);
        noSuchCopy(check);
        noSuchField(check);
        changesNothing(check);
        check.end();
    }

    private static void fields(Check check) {
        check.sentence(PROMISE, "body (field 0), KEY (1), HOPS (2), 1 if RETURNED else 0 (3), 1 if PERSISTENT else 0 (4)");
        int[] bodies = {Integer.MIN_VALUE, -1, 0, Integer.MAX_VALUE};
        int[] keys = {0, 0x1, 0x7ddddddd, 0xdddddddd};
        for (int n = 0; n < 4; n++) {
            QueueBroker x = Check.toAll(1, 12, 0);
            x.publish(0, 0, keys[n], bodies[n], n % 2);
            fieldsAre(check, x, bodies[n], keys[n], 0, 0, n % 2);
            x.consume(0, 0, false);
            x.deliver(0);
            x.settle(0, 1, false, 1);
            fieldsAre(check, x, bodies[n], keys[n], 0, 1, n % 2);
            for (int hops = 1; hops <= 3; hops++) {
                x.deliver(0);
                x.settle(0, 1 + hops, false, 2);
                fieldsAre(check, x, bodies[n], keys[n], hops, 0, n % 2);
            }
        }
    }

    private static void fieldsAre(Check check, QueueBroker x, long... due) {
        for (int field = 0; field < 5; field++) {
            check.due("ready(0, 0, " + field + ")", x.ready(0, 0, field), due[field]);
        }
    }

    private static void numbersFromZero(Check check) {
        check.sentence(PROMISE, "the READY copy number i (from 0, by PLACES) of the queue");
        for (int q = 0; q <= 5; q++) {
            QueueBroker x = Check.toAll(6, 12, -1);
            Check.publish(x, 1, 13);
            for (int i = 0; i < 12; i++) {
                check.due("ready(" + q + ", " + i + ", 0)", x.ready(q, i, 0), i + 2);
            }
            check.due("number 12", x.ready(q, 12, 0), NONE);
        }
        QueueBroker above = Check.toAll(1, 1, -1);
        for (int c = 0; c <= 3; c++) {
            above.consume(c, 0, false);
        }
        for (int body = 0; body < 48; body++) {
            Check.publish(above, body, body);
            above.deliver(0);
        }
        Check.publish(above, 48, 48);
        for (int c = 0; c <= 3; c++) {
            above.close(c);
        }
        for (int i = 0; i < 49; i++) {
            check.due("above the limit, number " + i, above.ready(0, i, 0), i);
        }
        check.due("number 49", above.ready(0, 49, 0), NONE);
    }

    private static void noSuchQueue(Check check) {
        check.sentence(PROMISE, "No such queue .. : NONE");
        QueueBroker x = Check.toAll(5, 12, -1);
        Check.publish(x, 1, 1);
        int[] wrong = {-1, 5, 6, Integer.MIN_VALUE, Integer.MAX_VALUE};
        for (int q : wrong) {
            for (int field = 0; field <= 4; field++) {
                check.due("ready(" + q + ", 0, " + field + ")", x.ready(q, 0, field), NONE);
            }
        }
        x.drop(4);
        check.due("dropped", x.ready(4, 0, 0), NONE);
        check.due("the last one that is there", x.ready(3, 0, 0), 1);
    }

    private static void noSuchCopy(Check check) {
        check.sentence(PROMISE, "No such .. copy .. : NONE");
        for (int n = 0; n <= 12; n++) {
            QueueBroker x = Check.toAll(1, 12, -1);
            Check.publish(x, 1, n);
            int[] wrong = {-1, n, n + 1, Integer.MIN_VALUE, Integer.MAX_VALUE};
            for (int i : wrong) {
                for (int field = 0; field <= 4; field++) {
                    check.due("number " + i + " of " + n, x.ready(0, i, field), NONE);
                }
            }
            check.due("the last of " + n, x.ready(0, n - 1, 0), n == 0 ? NONE : n);
        }
        QueueBroker held = Check.toAll(1, 12, -1);
        held.consume(0, 0, false);
        Check.publish(held, 1, 2);
        held.deliver(0);
        check.due("a held one is not ready", held.ready(0, 1, 0), NONE);
        check.due("the other is number 0", held.ready(0, 0, 0), 2);
    }

    private static void noSuchField(Check check) {
        check.sentence(PROMISE, "No such .. field: NONE");
        QueueBroker x = Check.toAll(1, 12, -1);
        Check.publish(x, 1, 1);
        int[] wrong = {-1, 5, 6, 7, 8, Integer.MIN_VALUE, Integer.MAX_VALUE};
        for (int field : wrong) {
            check.due("field " + field, x.ready(0, 0, field), NONE);
        }
        check.due("field 0", x.ready(0, 0, 0), 1);
        check.due("field 4", x.ready(0, 0, 4), 0);
    }

    private static void changesNothing(Check check) {
        check.sentence(PROMISE, "ready(): a getter");
        for (int field = -1; field <= 5; field++) {
            int number = field;
            Later.unchanged(check, "ready(0, 0, " + field + ")", Busy.broker().ready(0, 0, field), Busy::broker,
                    x -> x.ready(0, 0, number));
        }
    }
}
