/** What the document says of the number of calls: the 512th of an object is answered as the first. */
public final class TermsCallsTest {
    private static final String WORDS = "An object is used for at most 512 calls";
    private static final int CALLS = 512;

    public static void main(String[] args) {
        Check check = new Check();
        lettersInEveryCall(check);
        tagsTillTheEnd(check);
        placesTillTheEnd(check);
        dearestCommits(check);
        refusedCallsOnly(check);
        check.end();
    }

    private static void lettersInEveryCall(Check check) {
        check.sentence("Promise 7", WORDS);
        QueueBroker x = Check.toAll(5, 1, 1);
        x.exchange(1, 1, true);
        x.queue(5, 12, -1, true);
        x.bind(1, 5, 0);
        int publishes = CALLS - 14 - 3;
        for (int n = 1; n <= publishes; n++) {
            check.due("publish " + n, x.publish(n % 4, 0, 0x1, n, 0), 5);
        }
        int routed = 3 * (publishes - 1);
        check.due("call 510: letters routed", x.count(5, 0), routed);
        check.due("call 511: letters lost", x.count(6, 0), 2 * (publishes - 1) + routed - 12);
        check.due("call 512: the last letter", x.ready(5, 11, 0), publishes - 1);
    }

    private static void tagsTillTheEnd(Check check) {
        check.sentence("Promise 10", WORDS);
        QueueBroker x = Check.toAll(1, 1, -1);
        x.consume(3, 0, false);
        for (int tag = 1; tag <= 169; tag++) {
            check.due("publish", x.publish(0, 0, 0x1, tag, 0), 1);
            check.due("deliver", x.deliver(0), 3);
            check.due("settle of tag " + tag, x.settle(3, tag, false, 0), 1);
        }
        check.due("call 512: nothing is left", x.settle(3, 0, true, 0), -1);
    }

    private static void placesTillTheEnd(Check check) {
        check.sentence("Promise 11", WORDS);
        QueueBroker x = Check.toAll(1, 12, -1);
        x.consume(0, 0, false);
        Check.publish(x, 1, 2);
        Check.deliver(x, 0, 1);
        for (int n = 3; n <= 504; n++) {
            check.due("publish " + n, x.publish(0, 0, 0x1, n, 0), 1);
        }
        check.due("call 510: settle", x.settle(0, 1, false, 1), 1);
        check.due("call 511: the old place", x.ready(0, 0, 0), 1);
        check.due("call 512: the last place", x.ready(0, 12, 0), 504);
    }

    private static void dearestCommits(Check check) {
        check.sentence("Promise 14", WORDS);
        QueueBroker x = Check.toAll(6, 12, 0);
        x.begin(0);
        int calls = 14;
        int commits = 0;
        while (calls + 5 <= CALLS - 2) {
            for (int deed = 0; deed < 4; deed++) {
                check.due("deed " + deed, x.publish(0, 0, 0x1, deed, 0), 100);
            }
            check.due("commit", x.commit(0), 4);
            calls += 5;
            commits++;
        }
        check.due("commits", commits, 99);
        check.due("letters routed", x.count(5, 0), 3L * (commits - 3));
        check.due("copies", x.count(0, 5), 12);
    }

    private static void refusedCallsOnly(Check check) {
        check.sentence("Promise 1", WORDS);
        QueueBroker x = new QueueBroker();
        for (int n = 1; n < CALLS; n++) {
            check.due("call " + n, x.deliver(n % 8), -1);
        }
        check.due("call 512", x.exchange(4, 2, false), 0);
    }
}
