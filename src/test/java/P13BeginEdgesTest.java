/** Promise 13: begin, sentence by sentence. */
public final class P13BeginEdgesTest {
    private static final String PROMISE = "Promise 13";

    public static void main(String[] args) {
        Check check = new Check();
        channels(check);
        withoutDeeds(check);
        itIsSo(check);
        nothingElse(check);
        check.end();
    }

    private static void channels(Check check) {
        check.sentence(PROMISE, "The channel's MODE becomes transaction (channel 0 .. 3)");
        for (int c = 0; c <= 3; c++) {
            QueueBroker x = Check.toAll(1, 12, -1);
            check.due("begin(" + c + ")", x.begin(c), 0);
            for (int other = 0; other <= 3; other++) {
                check.due("mode of " + other, x.count(3, other), other == c ? 0 : -1);
                check.due("publish by " + other, x.publish(other, 0, 0x1, 1, 0), other == c ? 100 : 1);
            }
        }
        int[] wrong = {-1, 4};
        for (int c : wrong) {
            Later.unchanged(check, "begin(" + c + ")", -1, Busy::broker, x -> x.begin(c));
        }
    }

    private static void withoutDeeds(Check check) {
        check.sentence(PROMISE, "without DEEDS: DONE");
        QueueBroker x = Check.toAll(1, 12, -1);
        x.begin(0);
        x.publish(0, 0, 0x1, 1, 0);
        x.close(0);
        check.due("begin after a close", x.begin(0), 0);
        check.due("deeds", x.count(3, 0), 0);
        x.publish(0, 0, 0x1, 2, 0);
        x.crash();
        check.due("begin after a crash", x.begin(0), 0);
        check.due("deeds", x.count(3, 0), 0);
        check.due("commit", x.commit(0), 0);
        check.bodies("nothing was put", x, 0);
    }

    private static void itIsSo(Check check) {
        check.sentence(PROMISE, "it is so: STATE");
        Later.unchanged(check, "with 2 deeds", -3, Busy::broker, x -> x.begin(1));
        Later.unchanged(check, "with 4 deeds", -3, Busy::broker, x -> x.begin(3));
        Later.unchanged(check, "without a deed", -3, () -> {
            QueueBroker x = Busy.broker();
            x.begin(0);
            return x;
        }, x -> x.begin(0));
        QueueBroker x = Check.toAll(1, 12, -1);
        x.begin(2);
        x.commit(2);
        check.due("after a commit", x.begin(2), -3);
        x.rollback(2);
        check.due("after a rollback", x.begin(2), -3);
    }

    private static void nothingElse(Check check) {
        check.sentence(PROMISE, "The channel's MODE becomes transaction: nothing else changes");
        QueueBroker x = Check.toAll(1, 12, -1);
        x.prefetch(1, 4);
        x.consume(1, 0, false);
        Check.publish(x, 1, 6);
        Check.deliver(x, 0, 3);
        x.begin(1);
        check.tags("held", x, 1, 1, 2, 3);
        check.due("mark", x.held(1, 0, 7), 0);
        check.due("room for one more", x.deliver(0), 1);
        check.due("and no other", x.deliver(0), -6);
        check.tags("tags go on", x, 1, 1, 2, 3, 4);
    }
}
