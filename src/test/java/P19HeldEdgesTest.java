/** Promise 19: held, sentence by sentence. */
public final class P19HeldEdgesTest {
    private static final String PROMISE = "Promise 19";
    private static final long NONE = QueueBroker.NONE;

    public static void main(String[] args) {
        Check check = new Check();
        fields(check);
        tagAndQueue(check);
        mark(check);
        numbersFromZero(check);
        noSuchChannel(check);
        noSuchCopy(check);
        noSuchField(check);
        changesNothing(check);
        check.end();
    }

    private static QueueBroker holding(int n) {
        QueueBroker x = Check.toAll(1, 12, 0);
        x.consume(3, 0, false);
        Check.publish(x, 1, n);
        Check.deliver(x, 0, n);
        return x;
    }

    private static void fields(Check check) {
        check.sentence(PROMISE, "body (field 0), KEY (1), HOPS (2), RETURNED (3), PERSISTENT (4)");
        int[] bodies = {Integer.MIN_VALUE, -1, 0, Integer.MAX_VALUE};
        int[] keys = {0, 0x1, 0x7ddddddd, 0xdddddddd};
        for (int n = 0; n < 4; n++) {
            QueueBroker x = Check.toAll(1, 12, 0);
            x.consume(0, 0, false);
            x.publish(0, 0, keys[n], bodies[n], n % 2);
            x.deliver(0);
            fieldsAre(check, x, bodies[n], keys[n], 0, 0, n % 2, 1);
            x.settle(0, 1, false, 1);
            x.deliver(0);
            fieldsAre(check, x, bodies[n], keys[n], 0, 1, n % 2, 2);
            for (int hops = 1; hops <= 3; hops++) {
                x.settle(0, 1 + hops, false, 2);
                x.deliver(0);
                fieldsAre(check, x, bodies[n], keys[n], hops, 0, n % 2, 2 + hops);
            }
        }
    }

    private static void fieldsAre(Check check, QueueBroker x, long... due) {
        for (int field = 0; field <= 5; field++) {
            check.due("held(0, 0, " + field + ")", x.held(0, 0, field), due[field]);
        }
    }

    private static void tagAndQueue(Check check) {
        check.sentence(PROMISE, "its TAG (5), its queue (6)");
        QueueBroker x = Check.toAll(6, 12, -1);
        Check.publish(x, 1, 1);
        int[] order = {5, 0, 3, 1, 4, 2};
        for (int n = 0; n < 6; n++) {
            x.consume(2, order[n], false);
            x.deliver(order[n]);
            check.due("tag", x.held(2, n, 5), n + 1);
            check.due("queue", x.held(2, n, 6), order[n]);
        }
        x.settle(2, 2, false, 0);
        check.due("tag of number 1", x.held(2, 1, 5), 3);
        check.due("queue of number 1", x.held(2, 1, 6), 3);
    }

    private static void mark(Check check) {
        check.sentence(PROMISE, "1 if a DEED is to settle it, else 0 (7)");
        for (int how = 0; how <= 2; how++) {
            QueueBroker x = holding(4);
            check.due("direct", x.held(3, 0, 7), 0);
            x.begin(3);
            check.due("no deed", x.held(3, 0, 7), 0);
            x.publish(3, 0, 0x1, 9, 0);
            check.due("a deed that publishes", x.held(3, 0, 7), 0);
            x.settle(3, 2, false, how);
            for (int i = 0; i < 4; i++) {
                check.due("a deed for tag 2, copy " + i, x.held(3, i, 7), i == 1 ? 1 : 0);
            }
            x.settle(3, 3, true, how);
            for (int i = 0; i < 4; i++) {
                check.due("a deed up to tag 3, copy " + i, x.held(3, i, 7), i <= 2 ? 1 : 0);
            }
            x.rollback(3);
            for (int i = 0; i < 4; i++) {
                check.due("after a rollback, copy " + i, x.held(3, i, 7), 0);
            }
        }
    }

    private static void numbersFromZero(Check check) {
        check.sentence(PROMISE, "the copy number i (from 0, by TAGS) that the channel HOLDS");
        QueueBroker x = holding(12);
        for (int i = 0; i < 12; i++) {
            check.due("number " + i, x.held(3, i, 0), i + 1);
        }
        x.settle(3, 1, false, 1);
        x.deliver(0);
        for (int i = 0; i < 12; i++) {
            check.due("then number " + i, x.held(3, i, 0), i < 11 ? i + 2 : 1);
        }
    }

    private static void noSuchChannel(Check check) {
        check.sentence(PROMISE, "No such [channel]: NONE");
        QueueBroker x = holding(2);
        int[] wrong = {-1, 4, Integer.MIN_VALUE, Integer.MAX_VALUE};
        for (int c : wrong) {
            for (int field = 0; field <= 7; field++) {
                check.due("held(" + c + ", 0, " + field + ")", x.held(c, 0, field), NONE);
            }
        }
        for (int c = 0; c <= 3; c++) {
            check.due("held(" + c + ", 0, 0)", x.held(c, 0, 0), c == 3 ? 1 : NONE);
        }
    }

    private static void noSuchCopy(Check check) {
        check.sentence(PROMISE, "No such [copy]: NONE");
        for (int n = 0; n <= 12; n++) {
            QueueBroker x = holding(n);
            int[] wrong = {-1, n, n + 1, Integer.MIN_VALUE, Integer.MAX_VALUE};
            for (int i : wrong) {
                for (int field = 0; field <= 7; field++) {
                    check.due("number " + i + " of " + n + ", field " + field, x.held(3, i, field), NONE);
                }
            }
            check.due("the last of " + n, x.held(3, n - 1, 5), n == 0 ? NONE : n);
        }
    }

    private static void noSuchField(Check check) {
        check.sentence(PROMISE, "No such [field]: NONE");
        QueueBroker x = holding(1);
        int[] wrong = {-1, 8, 9, Integer.MIN_VALUE, Integer.MAX_VALUE};
        for (int field : wrong) {
            check.due("field " + field, x.held(3, 0, field), NONE);
        }
        check.due("field 0", x.held(3, 0, 0), 1);
        check.due("field 7", x.held(3, 0, 7), 0);
    }

    private static void changesNothing(Check check) {
        check.sentence(PROMISE, "held(): a getter");
        for (int field = -1; field <= 8; field++) {
            int number = field;
            Later.unchanged(check, "held(1, 0, " + field + ")", Busy.broker().held(1, 0, field), Busy::broker,
                    x -> x.held(1, 0, number));
        }
    }
}
