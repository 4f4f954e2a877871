/** Promise 14: commit. */
public final class P14CommitTest {
    public static void main(String[] args) {
        Check check = new Check();
        deedsInTheirOrder(check);
        lettersComeLast(check);
        threeLettersForAllDeeds(check);
        settlesByTags(check);
        mandatoryIsNotLookedAt(check);
        bindingsOfTheMoment(check);
        goneMeanwhile(check);
        modeStays(check);
        check.end();
    }

    /** Channel 1 holds bodies 1 .. n of queue 0 and is in a transaction. */
    private static QueueBroker holding(int n, int limit, int dead) {
        QueueBroker x = Check.toAll(1, limit, dead);
        x.consume(1, 0, false);
        for (int body = 1; body <= n; body++) {
            Check.publish(x, body, body);
            x.deliver(0);
        }
        x.begin(1);
        return x;
    }

    private static void deedsInTheirOrder(Check check) {
        QueueBroker x = holding(2, 2, -1);
        x.publish(1, 0, 0x1, 10, 1);
        x.settle(1, 2, false, 1);
        x.publish(1, 0, 0x2, 11, 0);
        check.due("commit", x.commit(1), 3);
        check.bodies("the returned one was driven out by the last deed", x, 0, 10, 11);
        check.due("key", x.ready(0, 0, 1), 0x1);
        check.due("persistent", x.ready(0, 0, 4), 1);
        check.due("not persistent", x.ready(0, 1, 4), 0);
        check.due("hops", x.ready(0, 0, 2), 0);
        check.letters("after it", x, 0, 1);
        check.tags("after it", x, 1, 1);
        QueueBroker y = holding(2, 2, -1);
        y.publish(1, 0, 0x1, 10, 1);
        y.publish(1, 0, 0x2, 11, 0);
        y.settle(1, 2, false, 1);
        check.due("commit", y.commit(1), 3);
        check.bodies("the returned one came last", y, 0, 2, 10, 11);
    }

    private static void lettersComeLast(Check check) {
        QueueBroker x = holding(1, 12, 0);
        x.settle(1, 1, false, 2);
        x.publish(1, 0, 0x1, 20, 0);
        check.due("commit", x.commit(1), 2);
        check.bodies("the letter is behind what was published", x, 0, 20, 1);
        check.due("its hops", x.ready(0, 1, 2), 1);
        check.letters("after it", x, 1, 0);
    }

    private static void threeLettersForAllDeeds(Check check) {
        QueueBroker x = holding(5, 12, 0);
        x.settle(1, 4, false, 2);
        x.settle(1, 2, true, 2);
        x.settle(1, 0, true, 2);
        check.due("commit", x.commit(1), 3);
        check.bodies("in the order of deeds, then of tags", x, 0, 4, 1, 2);
        check.letters("three in all", x, 3, 2);
    }

    private static void settlesByTags(Check check) {
        QueueBroker x = holding(5, 12, -1);
        x.settle(1, 2, false, 0);
        x.settle(1, 4, true, 1);
        check.due("commit", x.commit(1), 2);
        check.bodies("1, 3 and 4 are back", x, 0, 1, 3, 4);
        check.due("returned", x.ready(0, 0, 3), 1);
        check.tags("one is held", x, 1, 5);
        check.due("no deed is to settle it", x.held(1, 0, 7), 0);
        check.due("a later copy has no part in a done deed", x.deliver(0), 1);
        check.due("mark", x.held(1, 1, 7), 0);
        check.due("commit without deeds", x.commit(1), 0);
        check.tags("nothing more is settled", x, 1, 5, 6);
    }

    private static void mandatoryIsNotLookedAt(Check check) {
        QueueBroker x = new QueueBroker();
        x.exchange(0, 0, true);
        x.begin(0);
        check.due("publish", x.publish(0, 0, 0x1, 1, 2), 100);
        check.due("commit", x.commit(0), 1);
        check.letters("no letters", x, 0, 0);
    }

    private static void bindingsOfTheMoment(Check check) {
        QueueBroker x = Check.toAll(2, 12, -1);
        x.begin(0);
        x.publish(0, 0, 0x1, 1, 0);
        x.unbind(0, 0, 0);
        x.publish(3, 0, 0x1, 2, 0);
        check.due("commit", x.commit(0), 1);
        check.bodies("unbound meanwhile", x, 0);
        check.bodies("put at the commit, not before", x, 1, 2, 1);
    }

    private static void goneMeanwhile(Check check) {
        QueueBroker x = Check.toAll(2, 12, 0);
        Check.publish(x, 1, 2);
        x.consume(1, 0, false);
        x.consume(1, 1, false);
        Check.deliver(x, 0, 2);
        Check.deliver(x, 1, 2);
        x.begin(1);
        x.settle(1, 2, true, 2);
        x.settle(1, 4, true, 1);
        x.drop(0);
        check.due("both deeds count", x.commit(1), 2);
        check.letters("the first deed found nothing", x, 0, 0);
        check.bodies("the second did its work", x, 1, 1, 2);
        check.tags("after it", x, 1);
        x.publish(1, 0, 0x1, 7, 0);
        x.crash();
        check.due("a crash ends the transaction", x.commit(1), -3);
    }

    private static void modeStays(Check check) {
        QueueBroker x = holding(1, 12, -1);
        x.publish(1, 0, 0x1, 5, 0);
        check.due("commit", x.commit(1), 1);
        check.due("no deeds", x.count(3, 1), 0);
        check.due("still in a transaction", x.publish(1, 0, 0x1, 6, 0), 100);
        check.due("commit", x.commit(1), 1);
        check.bodies("each deed is done once", x, 0, 5, 6);
        for (int n = 0; n < 4; n++) {
            check.due("room for four deeds again", x.publish(1, 0, 0x1, 6, 0), 100);
        }
    }
}
