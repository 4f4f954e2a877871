/** Promise 11: settle, and what becomes of LETTERS. */
public final class P11SettleTest {
    public static void main(String[] args) {
        Check check = new Check();
        accept(check);
        giveBack(check);
        reject(check);
        whole(check);
        lettersInOrderOfTags(check);
        fourHops(check);
        lostLetters(check);
        aboveTheLimit(check);
        inATransaction(check);
        check.end();
    }

    /** Channel 1 holds bodies 1 .. n of queue 0 under the tags 1 .. n. */
    private static QueueBroker holding(int n, int dead) {
        QueueBroker x = Check.toAll(1, 12, dead);
        Check.publish(x, 1, n);
        x.consume(1, 0, false);
        Check.deliver(x, 0, n);
        return x;
    }

    private static void accept(Check check) {
        QueueBroker x = holding(3, 0);
        check.due("settle(1, 2, false, 0)", x.settle(1, 2, false, 0), 1);
        check.tags("after it", x, 1, 1, 3);
        check.bodies("after it", x, 0);
        check.letters("after it", x, 0, 0);
        check.leaves(x, "a second time", -1, () -> x.settle(1, 2, false, 0));
    }

    private static void giveBack(Check check) {
        QueueBroker x = holding(4, 0);
        Check.publish(x, 5, 5);
        check.due("settle(1, 3, false, 1)", x.settle(1, 3, false, 1), 1);
        check.bodies("at its old place", x, 0, 3, 5);
        check.due("returned", x.ready(0, 0, 3), 1);
        check.due("the other is not", x.ready(0, 1, 3), 0);
        x.settle(1, 1, false, 1);
        x.settle(1, 4, false, 1);
        check.bodies("by places, not by time", x, 0, 1, 3, 4, 5);
        check.tags("after it", x, 1, 2);
        check.letters("after it", x, 0, 0);
    }

    private static void reject(Check check) {
        QueueBroker x = holding(3, 2);
        x.exchange(2, 0, true);
        x.queue(4, 12, -1, true);
        x.bind(2, 4, 0x12);
        x.settle(1, 2, false, 1);
        x.deliver(0);
        check.due("settle(1, 4, false, 2)", x.settle(1, 4, false, 2), 1);
        check.bodies("by the dead exchange", x, 4, 2);
        check.due("its key", x.ready(4, 0, 1), 0x12);
        check.due("its hops", x.ready(4, 0, 2), 1);
        check.due("a letter is not returned", x.ready(4, 0, 3), 0);
        check.due("not persistent", x.ready(4, 0, 4), 0);
        check.letters("after it", x, 1, 0);
        x.publish(0, 0, 0x12, -9, 1);
        x.deliver(0);
        x.settle(1, 5, false, 2);
        check.bodies("a second one", x, 4, 2, -9);
        check.due("persistent", x.ready(4, 1, 4), 1);
    }

    private static void whole(Check check) {
        QueueBroker x = holding(6, -1);
        check.due("up to 2", x.settle(1, 2, true, 0), 2);
        check.tags("up to 2", x, 1, 3, 4, 5, 6);
        check.leaves(x, "up to 2 again", -1, () -> x.settle(1, 2, true, 0));
        x.settle(1, 4, false, 0);
        check.due("up to 4, which is gone", x.settle(1, 4, true, 1), 1);
        check.tags("up to 4", x, 1, 5, 6);
        check.due("up to the highest tag there is", x.settle(1, Integer.MAX_VALUE, true, 1), 2);
        check.bodies("all returned", x, 0, 3, 5, 6);
        Check.deliver(x, 0, 3);
        check.due("all", x.settle(1, 0, true, 0), 3);
        check.leaves(x, "all of none", -1, () -> x.settle(1, 0, true, 0));
        check.leaves(x, "of another channel", -1, () -> x.settle(0, 0, true, 0));
    }

    private static void lettersInOrderOfTags(Check check) {
        QueueBroker x = holding(5, 0);
        x.settle(1, 1, false, 1);
        x.deliver(0);
        check.due("five rejected", x.settle(1, 0, true, 2), 5);
        check.bodies("three letters are routed, by tags 2, 3 and 4", x, 0, 2, 3, 4);
        check.letters("two are lost", x, 3, 2);
        check.due("answers how many were settled", x.count(2, 1), 0);
    }

    private static void fourHops(Check check) {
        QueueBroker x = holding(1, 0);
        for (int hops = 1; hops <= 3; hops++) {
            check.due("reject", x.settle(1, 0, true, 2), 1);
            check.due("hops", x.ready(0, 0, 2), hops);
            x.deliver(0);
            check.due("hops of the held copy", x.held(1, 0, 2), hops);
        }
        check.due("the fourth time", x.settle(1, 0, true, 2), 1);
        check.bodies("lost", x, 0);
        check.letters("after it", x, 3, 1);
    }

    private static void lostLetters(Check check) {
        QueueBroker none = holding(2, -1);
        check.due("no dead exchange", none.settle(1, 0, true, 2), 2);
        check.letters("no dead exchange", none, 0, 2);
        QueueBroker undeclared = holding(2, 3);
        check.due("not declared", undeclared.settle(1, 1, false, 2), 1);
        check.letters("not declared", undeclared, 0, 1);
        undeclared.exchange(3, 0, true);
        check.due("declared, but no queue is chosen", undeclared.settle(1, 2, false, 2), 1);
        check.letters("routed, into no queue", undeclared, 1, 1);
        QueueBroker mixed = Check.toAll(2, 12, -1);
        mixed.drop(1);
        mixed.queue(1, 12, 0, true);
        mixed.bind(0, 1, 0);
        Check.publish(mixed, 1, 4);
        mixed.consume(1, 0, false);
        mixed.consume(1, 1, false);
        Check.deliver(mixed, 0, 4);
        Check.deliver(mixed, 1, 4);
        check.due("lost ones don't count among the three", mixed.settle(1, 0, true, 2), 8);
        check.letters("three of the second queue", mixed, 3, 5);
        check.bodies("three of the second queue", mixed, 1, 1, 2, 3);
    }

    private static void aboveTheLimit(Check check) {
        QueueBroker x = Check.toAll(1, 2, 1);
        x.exchange(1, 1, true);
        x.queue(5, 12, -1, true);
        x.bind(1, 5, 0);
        x.consume(1, 0, false);
        for (int n = 1; n <= 4; n++) {
            Check.publish(x, n, n);
            x.deliver(0);
        }
        Check.publish(x, 5, 6);
        check.due("all come back", x.settle(1, 0, true, 1), 4);
        check.bodies("above the limit", x, 0, 1, 2, 3, 4, 5, 6);
        check.letters("above the limit", x, 0, 0);
        Check.publish(x, 7, 7);
        check.bodies("the next one drives out all that are too many", x, 0, 6, 7);
        check.bodies("from the least place on, three of five", x, 5, 1, 2, 3);
        check.due("not returned any more", x.ready(5, 0, 3), 0);
        check.letters("after it", x, 3, 2);
    }

    private static void inATransaction(Check check) {
        QueueBroker x = holding(7, 0);
        x.begin(1);
        check.due("one", x.settle(1, 2, false, 2), 100);
        check.due("up to 3", x.settle(1, 3, true, 0), 100);
        int[] marks = {1, 1, 1, 0, 0, 0, 0};
        for (int i = 0; i < 7; i++) {
            check.due("mark " + i, x.held(1, i, 7), marks[i]);
        }
        check.due("one that a deed is to settle", x.settle(1, 1, false, 1), -1);
        check.due("all of them are", x.settle(1, 3, true, 1), -1);
        check.due("deed 3", x.settle(1, 5, false, 1), 100);
        check.due("deed 4", x.settle(1, 6, false, 1), 100);
        check.due("deed 5", x.settle(1, 7, false, 1), -2);
        check.due("nothing there is told before no room", x.settle(1, 8, false, 1), -1);
        check.due("a wrong number too", x.settle(1, 7, false, 3), -1);
        check.due("all are still held", x.count(2, 1), 7);
        check.bodies("nothing is back", x, 0);
    }
}
