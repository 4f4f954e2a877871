/** Terms: LETTERS, how they are routed and when they are lost, at the edges. */
public final class TermsLettersTest {
    private static final String TERMS = "Terms (promises 7, 11, 14)";
    private static final int REJECT = 2;

    public static void main(String[] args) {
        Check check = new Check();
        atTheEndOfTheCall(check);
        inTheOrderInWhichTheyCameUp(check);
        thoseThatComeUpMeanwhile(check);
        byTheDeadExchangeOfTheirQueue(check);
        sameBodyKeyAndPersistent(check);
        hopsOneMore(check);
        lostWithoutDeadExchange(check);
        lostIfItIsNotDeclared(check);
        lostWithThreeHops(check);
        lostAfterThree(check);
        threeInEachCall(check);
        lostOnesAreNotAmongTheThree(check);
        routedIntoNoQueue(check);
        callsThatMakeNone(check);
        check.end();
    }

    /** Channel 0 holds bodies 1 .. n of queue 0, whose letters go by exchange 4 (to all) into queue 5. */
    private static QueueBroker holding(int n) {
        QueueBroker x = Check.toAll(1, 12, 4);
        x.exchange(4, 1, true);
        x.queue(5, 12, -1, true);
        x.bind(4, 5, 0);
        x.consume(0, 0, false);
        Check.publish(x, 1, n);
        Check.deliver(x, 0, n);
        return x;
    }

    private static void atTheEndOfTheCall(Check check) {
        check.sentence(TERMS, "a call that makes some routes them at its end");
        QueueBroker x = Check.toAll(2, 1, -1);
        x.drop(0);
        x.queue(0, 1, 1, true);
        x.bind(0, 0, 0);
        x.drop(1);
        x.queue(1, 12, -1, true);
        x.bind(0, 1, 0);
        x.exchange(1, 1, true);
        x.bind(1, 1, 0);
        Check.publish(x, 1, 2);
        check.bodies("behind what the call itself put", x, 1, 1, 2, 1);
        check.letters("after it", x, 1, 0);
    }

    private static void inTheOrderInWhichTheyCameUp(Check check) {
        check.sentence(TERMS, "one after another in the order in which they came up");
        QueueBroker x = holding(3);
        x.settle(0, 1, false, 1);
        x.settle(0, 3, false, 1);
        Check.deliver(x, 0, 2);
        check.due("tags 2, 4 and 5 are bodies 2, 1 and 3", x.settle(0, 0, true, REJECT), 3);
        check.bodies("by tags, not by places", x, 5, 2, 1, 3);
        QueueBroker y = Check.toAll(2, 1, 4);
        y.exchange(4, 1, true);
        y.queue(5, 12, -1, true);
        y.bind(4, 5, 0);
        y.exchange(3, 0, true);
        y.bind(3, 0, 0x1);
        y.bind(3, 1, 0x2);
        y.publish(0, 3, 0x2, 21, 0);
        y.publish(0, 3, 0x1, 20, 0);
        y.publish(0, 0, 0, 9, 0);
        check.bodies("by queues, not by places", y, 5, 20, 21);
    }

    private static void thoseThatComeUpMeanwhile(Check check) {
        check.sentence(TERMS, "those that come up meanwhile behind the others");
        QueueBroker x = new QueueBroker();
        x.exchange(0, 1, true);
        x.exchange(1, 1, true);
        x.exchange(2, 1, true);
        x.queue(0, 1, 1, true);
        x.queue(1, 1, 2, true);
        x.queue(2, 1, 2, true);
        x.queue(5, 12, -1, true);
        x.bind(0, 0, 0);
        x.bind(0, 1, 0);
        x.bind(1, 2, 0);
        x.bind(2, 5, 0);
        x.publish(0, 0, 0x1, 1, 0);
        x.publish(0, 1, 0x1, 30, 0);
        x.publish(0, 0, 0x1, 2, 0);
        check.bodies("the letter of queue 0 went into queue 2", x, 2, 1);
        check.bodies("and drove one out, which came behind that of queue 1", x, 5, 1, 30);
        check.due("hops of the letter of queue 1", x.ready(5, 0, 2), 1);
        check.due("hops of the letter of queue 2", x.ready(5, 1, 2), 1);
        check.letters("three", x, 3, 0);
    }

    private static void byTheDeadExchangeOfTheirQueue(Check check) {
        check.sentence(TERMS, "by the DEAD exchange of the queue that they come from");
        for (int dead = 0; dead <= 4; dead++) {
            QueueBroker x = new QueueBroker();
            for (int e = 0; e <= 4; e++) {
                x.exchange(e, 0, true);
                x.queue(e, 12, -1, true);
                x.bind(e, e, 0x1);
            }
            x.queue(5, 1, dead, true);
            x.bind((dead + 1) % 5, 5, 0x2);
            x.publish(0, (dead + 1) % 5, 0x2, 7, 0);
            x.consume(0, 5, false);
            x.deliver(5);
            x.settle(0, 1, false, REJECT);
            check.letters("no queue of exchange " + dead + " has the key", x, 1, 0);
            x.bind(dead, dead, 0x2);
            x.publish(0, (dead + 1) % 5, 0x2, 8, 0);
            x.deliver(5);
            x.settle(0, 2, false, REJECT);
            for (int q = 0; q <= 4; q++) {
                check.due("dead exchange " + dead + ", copies of queue " + q, x.count(0, q), q == dead ? 1 : 0);
            }
        }
    }

    private static void sameBodyKeyAndPersistent(Check check) {
        check.sentence(TERMS, "with the same body, KEY and PERSISTENT");
        int[] bodies = {Integer.MIN_VALUE, -1, 0, 1, Integer.MAX_VALUE};
        int[] keys = {0, 0x1, 0xd, 0x12345678, 0xdddddddd};
        for (int n = 0; n < 5; n++) {
            for (int flags = 0; flags <= 3; flags++) {
                QueueBroker x = holding(0);
                x.publish(1, 0, keys[n], bodies[n], flags);
                x.deliver(0);
                check.due("reject", x.settle(0, 1, false, REJECT), 1);
                check.due("body", x.ready(5, 0, 0), bodies[n]);
                check.due("key", x.ready(5, 0, 1), keys[n]);
                check.due("persistent", x.ready(5, 0, 4), flags & 1);
            }
        }
    }

    private static void hopsOneMore(Check check) {
        check.sentence(TERMS, "and HOPS one more");
        QueueBroker x = Check.toAll(1, 12, 0);
        x.consume(0, 0, false);
        Check.publish(x, 1, 1);
        check.due("published", x.ready(0, 0, 2), 0);
        for (int hops = 1; hops <= 3; hops++) {
            x.deliver(0);
            x.settle(0, hops, false, REJECT);
            check.due("rejected", x.ready(0, 0, 2), hops);
        }
        QueueBroker back = holding(1);
        back.settle(0, 1, false, 1);
        check.due("coming back is no hop", back.ready(0, 0, 2), 0);
    }

    private static void lostWithoutDeadExchange(Check check) {
        check.sentence(TERMS, "A letter is lost if its queue has no DEAD exchange");
        QueueBroker x = new QueueBroker();
        for (int e = 0; e <= 4; e++) {
            x.exchange(e, 1, true);
        }
        x.queue(0, 1, -1, true);
        x.queue(5, 12, -1, true);
        x.bind(0, 0, 0);
        for (int e = 1; e <= 4; e++) {
            x.bind(e, 5, 0);
        }
        Check.publish(x, 1, 2);
        check.letters("driven out", x, 0, 1);
        x.consume(0, 0, false);
        x.deliver(0);
        x.settle(0, 1, false, REJECT);
        check.letters("rejected", x, 0, 2);
        check.bodies("no exchange was taken in its place", x, 5);
    }

    private static void lostIfItIsNotDeclared(Check check) {
        check.sentence(TERMS, "that isn't declared");
        for (int dead = 1; dead <= 4; dead++) {
            QueueBroker x = Check.toAll(1, 1, dead);
            Check.publish(x, 1, 2);
            check.letters("never declared", x, 0, 1);
            x.exchange(dead, 1, false);
            x.queue(5, 12, -1, true);
            x.bind(dead, 5, 0);
            Check.publish(x, 3, 3);
            check.letters("declared meanwhile", x, 1, 1);
            check.bodies("declared meanwhile", x, 5, 2);
            x.crash();
            Check.publish(x, 4, 5);
            check.letters("gone by a crash", x, 1, 2);
        }
    }

    private static void lostWithThreeHops(Check check) {
        check.sentence(TERMS, "it has 3 HOPS already");
        QueueBroker x = Check.toAll(1, 12, 0);
        x.consume(0, 0, false);
        Check.publish(x, 1, 1);
        for (int tag = 1; tag <= 3; tag++) {
            x.deliver(0);
            check.due("reject with " + (tag - 1) + " hops", x.settle(0, tag, false, REJECT), 1);
            check.letters("with " + (tag - 1) + " hops", x, tag, 0);
            check.bodies("with " + (tag - 1) + " hops", x, 0, 1);
        }
        x.deliver(0);
        check.due("reject with 3 hops", x.settle(0, 4, false, REJECT), 1);
        check.letters("with 3 hops", x, 3, 1);
        check.bodies("with 3 hops", x, 0);
    }

    private static void lostAfterThree(Check check) {
        check.sentence(TERMS, "or three letters were routed in this call before");
        for (int n = 1; n <= 12; n++) {
            QueueBroker x = holding(n);
            check.due("reject of " + n, x.settle(0, 0, true, REJECT), n);
            check.letters(n + " letters", x, Math.min(n, 3), Math.max(0, n - 3));
            check.due("copies in the dead queue", x.count(0, 5), Math.min(n, 3));
            check.due("the last of them", x.ready(5, Math.min(n, 3) - 1, 0), Math.min(n, 3));
        }
        for (int n = 1; n <= 5; n++) {
            QueueBroker x = Check.toAll(n, 1, 4);
            x.exchange(4, 1, true);
            x.queue(5, 12, -1, true);
            x.bind(4, 5, 0);
            Check.publish(x, 1, 2);
            check.letters(n + " letters of a publish", x, Math.min(n, 3), Math.max(0, n - 3));
        }
        QueueBroker round = Check.toAll(1, 1, 0);
        Check.publish(round, 1, 2);
        check.letters("each letter drives out the next", round, 3, 1);
        check.bodies("each letter drives out the next", round, 0, 1);
        check.due("its hops", round.ready(0, 0, 2), 2);
    }

    private static void threeInEachCall(Check check) {
        check.sentence(TERMS, "three letters were routed in this call: the next call has three again");
        QueueBroker x = holding(9);
        for (int call = 1; call <= 3; call++) {
            check.due("three rejected", x.settle(0, 3 * call, true, REJECT), 3);
            check.letters("call " + call, x, 3 * call, 0);
        }
        check.bodies("all nine", x, 5, 1, 2, 3, 4, 5, 6, 7, 8, 9);
        QueueBroker y = holding(12);
        y.settle(0, 7, true, REJECT);
        check.letters("after seven", y, 3, 4);
        y.settle(0, 0, true, REJECT);
        check.letters("after five more", y, 6, 6);
        check.bodies("three of each call", y, 5, 1, 2, 3, 8, 9, 10);
        QueueBroker z = holding(10);
        z.begin(0);
        z.settle(0, 2, true, REJECT);
        z.settle(0, 4, true, REJECT);
        z.commit(0);
        check.letters("a commit is one call", z, 3, 1);
        z.settle(0, 7, true, REJECT);
        z.commit(0);
        check.letters("the next commit is another", z, 6, 1);
        z.close(0);
        z.publish(0, 0, 0x1, 5, 0);
        check.letters("no letter, no change", z, 6, 1);
    }

    private static void lostOnesAreNotAmongTheThree(Check check) {
        check.sentence(TERMS, "three letters were routed: lost ones are none of them");
        QueueBroker x = holding(4);
        x.queue(1, 12, -1, true);
        x.queue(2, 12, 3, true);
        x.exchange(2, 1, true);
        x.bind(2, 1, 0);
        x.bind(2, 2, 0);
        x.consume(1, 1, false);
        x.consume(1, 2, false);
        x.consume(1, 0, false);
        x.close(0);
        x.publish(0, 2, 0x1, 21, 0);
        x.publish(0, 2, 0x1, 22, 0);
        Check.deliver(x, 1, 2);
        Check.deliver(x, 2, 2);
        Check.deliver(x, 0, 4);
        check.due("two without a dead exchange, two of an undeclared one, four others", x.settle(1, 0, true, REJECT), 8);
        check.letters("after them", x, 3, 5);
        check.bodies("after them", x, 5, 1, 2, 3);
    }

    private static void routedIntoNoQueue(Check check) {
        check.sentence(TERMS, "A letter is lost if ..: one that is routed into no queue is not");
        QueueBroker x = holding(4);
        x.unbind(4, 5, 0);
        check.due("reject", x.settle(0, 4, true, REJECT), 4);
        check.letters("three were routed", x, 3, 1);
        check.bodies("into no queue", x, 5);
    }

    private static void callsThatMakeNone(Check check) {
        check.sentence(TERMS, "without becoming letters: drop, close, crash, ACCEPT, RETURN and automatic deliveries");
        QueueBroker x = holding(12);
        Check.publish(x, 13, 24);
        x.settle(0, 1, false, 0);
        x.settle(0, 2, false, 1);
        x.close(0);
        x.consume(1, 0, true);
        x.deliver(0);
        x.drop(0);
        check.letters("after a drop", x, 0, 0);
        QueueBroker y = holding(12);
        y.crash();
        check.letters("after a crash", y, 0, 0);
        check.bodies("after a crash", y, 5);
    }
}
