/** Promise 12: prefetch, sentence by sentence. */
public final class P12PrefetchEdgesTest {
    private static final String PROMISE = "Promise 12";

    public static void main(String[] args) {
        Check check = new Check();
        channels(check);
        oneToTwelve(check);
        belowAndAbove(check);
        setAgain(check);
        belowWhatIsHeld(check);
        check.end();
    }

    private static void channels(Check check) {
        check.sentence(PROMISE, "Sets the PREFETCH (of channel 0 .. 3)");
        for (int c = 0; c <= 3; c++) {
            QueueBroker x = Check.toAll(1, 12, -1);
            check.due("prefetch(" + c + ", 2)", x.prefetch(c, 2), 0);
            for (int other = 0; other <= 3; other++) {
                x.consume(other, 0, false);
            }
            for (int n = 0; n < 40; n++) {
                Check.publish(x, n, n);
                x.deliver(0);
            }
            for (int other = 0; other <= 3; other++) {
                check.due("held by " + other, x.count(2, other), other == c ? 2 : 12);
            }
        }
        int[] wrong = {-1, 4};
        for (int c : wrong) {
            Later.unchanged(check, "prefetch(" + c + ", 3)", -1, Busy::broker, x -> x.prefetch(c, 3));
        }
    }

    private static void oneToTwelve(Check check) {
        check.sentence(PROMISE, "(n 1 .. 12): DONE");
        for (int n = 1; n <= 12; n++) {
            QueueBroker x = Check.toAll(1, 12, -1);
            check.due("prefetch(0, " + n + ")", x.prefetch(0, n), 0);
            x.consume(0, 0, false);
            for (int held = 0; held < n; held++) {
                Check.publish(x, held, held);
                check.due("holds " + held + " of " + n, x.deliver(0), 0);
            }
            Check.publish(x, 99, 99);
            check.due("holds " + n + " of " + n, x.deliver(0), -6);
        }
    }

    private static void belowAndAbove(Check check) {
        check.sentence(PROMISE, "n 1 .. 12: else REFUSED");
        int[] wrong = {0, 13, -1, -12, 100};
        for (int n : wrong) {
            for (int c = 0; c <= 3; c++) {
                int channel = c;
                Later.unchanged(check, "prefetch(" + c + ", " + n + ")", -1, Busy::broker, x -> x.prefetch(channel, n));
            }
        }
    }

    private static void setAgain(Check check) {
        check.sentence(PROMISE, "Sets the PREFETCH: the last one holds");
        QueueBroker x = Check.toAll(1, 12, -1);
        x.consume(0, 0, false);
        Check.publish(x, 1, 12);
        x.prefetch(0, 12);
        x.prefetch(0, 1);
        check.due("first", x.deliver(0), 0);
        check.due("second", x.deliver(0), -6);
        x.prefetch(0, 2);
        check.due("second", x.deliver(0), 0);
        check.due("third", x.deliver(0), -6);
        check.due("refused", x.prefetch(0, 13), -1);
        check.due("third, as before", x.deliver(0), -6);
        x.prefetch(0, 12);
        Check.deliver(x, 0, 10);
        check.due("all", x.count(2, 0), 12);
    }

    private static void belowWhatIsHeld(Check check) {
        check.sentence(PROMISE, "Sets the PREFETCH: also below what is held, and in a transaction");
        QueueBroker x = Check.toAll(1, 12, -1);
        x.consume(0, 0, false);
        Check.publish(x, 1, 12);
        Check.deliver(x, 0, 5);
        x.begin(0);
        check.due("prefetch(0, 1)", x.prefetch(0, 1), 0);
        check.tags("all stay", x, 0, 1, 2, 3, 4, 5);
        check.due("no deed", x.count(3, 0), 0);
        check.due("no room", x.deliver(0), -6);
        x.settle(0, 4, true, 0);
        check.due("held till the commit", x.deliver(0), -6);
        x.commit(0);
        check.due("one of one", x.deliver(0), -6);
        x.settle(0, 5, false, 0);
        x.commit(0);
        check.due("none of one", x.deliver(0), 0);
    }
}
