/** Promise 15: rollback, sentence by sentence. */
public final class P15RollbackEdgesTest {
    private static final String PROMISE = "Promise 15";

    public static void main(String[] args) {
        Check check = new Check();
        channels(check);
        forgets(check);
        modeStays(check);
        notInATransaction(check);
        howMany(check);
        check.end();
    }

    private static QueueBroker holding(int n) {
        QueueBroker x = Check.toAll(1, 12, 0);
        x.consume(1, 0, false);
        Check.publish(x, 1, n);
        Check.deliver(x, 0, n);
        x.begin(1);
        return x;
    }

    private static void channels(Check check) {
        check.sentence(PROMISE, "rollback(int channel): 0 .. 3");
        int[] wrong = {-1, 4};
        for (int c : wrong) {
            Later.unchanged(check, "rollback(" + c + ")", -1, Busy::broker, x -> x.rollback(c));
        }
        for (int c = 0; c <= 3; c++) {
            QueueBroker x = Check.toAll(1, 12, -1);
            for (int other = 0; other <= 3; other++) {
                x.begin(other);
                x.publish(other, 0, 0x1, other, 0);
            }
            check.due("rollback(" + c + ")", x.rollback(c), 1);
            for (int other = 0; other <= 3; other++) {
                check.due("deeds of " + other, x.commit(other), other == c ? 0 : 1);
            }
            check.due("the others were put", x.count(0, 0), 3);
        }
    }

    private static void forgets(Check check) {
        check.sentence(PROMISE, "Forgets the DEEDS");
        for (int how = 0; how <= 2; how++) {
            QueueBroker x = holding(3);
            x.settle(1, 2, true, how);
            x.publish(1, 0, 0x1, 9, 0);
            x.settle(1, 3, false, how);
            check.due("rollback, how " + how, x.rollback(1), 3);
            check.tags("all are held", x, 1, 1, 2, 3);
            for (int i = 0; i < 3; i++) {
                check.due("mark", x.held(1, i, 7), 0);
                check.due("returned", x.held(1, i, 3), 0);
            }
            check.bodies("nothing was put", x, 0);
            check.letters("nothing was rejected", x, 0, 0);
            check.due("all can be settled", x.settle(1, 0, true, 0), 100);
            check.due("commit", x.commit(1), 1);
            check.due("held", x.count(2, 1), 0);
            check.bodies("the forgotten ones are not done", x, 0);
        }
    }

    private static void modeStays(Check check) {
        check.sentence(PROMISE, "the MODE stays");
        QueueBroker x = holding(1);
        for (int round = 0; round < 3; round++) {
            for (int deed = 0; deed < 4; deed++) {
                check.due("deed", x.publish(1, 0, 0x1, deed, 0), 100);
            }
            check.due("no fifth", x.publish(1, 0, 0x1, 4, 0), -2);
            check.due("rollback", x.rollback(1), 4);
            check.due("deeds", x.count(3, 1), 0);
            check.due("begin", x.begin(1), -3);
        }
    }

    private static void notInATransaction(Check check) {
        check.sentence(PROMISE, "Not in a transaction: STATE");
        Later.unchanged(check, "rollback(0)", -3, Busy::broker, x -> x.rollback(0));
        Later.unchanged(check, "rollback(2)", -3, Busy::broker, x -> x.rollback(2));
        for (int c = 0; c <= 3; c++) {
            int channel = c;
            Later.unchanged(check, "rollback(" + c + ")", -3, QueueBroker::new, x -> x.rollback(channel));
        }
        QueueBroker x = holding(1);
        x.close(1);
        check.due("after a close", x.rollback(1), -3);
    }

    private static void howMany(Check check) {
        check.sentence(PROMISE, "Answers how many there were");
        for (int n = 0; n <= 4; n++) {
            QueueBroker x = holding(4);
            for (int deed = 1; deed <= n; deed++) {
                check.due("deed " + deed, deed % 2 == 0 ? x.settle(1, deed, false, 0) : x.publish(1, 0, 0, deed, 0), 100);
            }
            check.due(n + " deeds", x.rollback(1), n);
            check.due("none any more", x.rollback(1), 0);
        }
    }
}
