/** Promise 14: commit, sentence by sentence. */
public final class P14CommitEdgesTest {
    private static final String PROMISE = "Promise 14";

    public static void main(String[] args) {
        Check check = new Check();
        channels(check);
        inTheirOrder(check);
        asTheCallWould(check);
        exchangeGone(check);
        copiesGone(check);
        restOfTheCopies(check);
        mandatory(check);
        thenTheLetters(check);
        afterwards(check);
        notInATransaction(check);
        howManyDeeds(check);
        check.end();
    }

    /** Channel 1 holds bodies 1 .. n of queue 0, whose letters go by exchange 1 into queue 5, in a transaction. */
    private static QueueBroker holding(int n, int limit) {
        QueueBroker x = Check.toAll(1, limit, 1);
        x.exchange(1, 1, true);
        x.queue(5, 12, -1, true);
        x.bind(1, 5, 0);
        x.consume(1, 0, false);
        for (int body = 1; body <= n; body++) {
            Check.publish(x, body, body);
            x.deliver(0);
        }
        x.begin(1);
        return x;
    }

    private static void channels(Check check) {
        check.sentence(PROMISE, "commit(int channel): 0 .. 3");
        int[] wrong = {-1, 4};
        for (int c : wrong) {
            Later.unchanged(check, "commit(" + c + ")", -1, Busy::broker, x -> x.commit(c));
        }
        for (int c = 0; c <= 3; c++) {
            QueueBroker x = Check.toAll(1, 12, -1);
            for (int other = 0; other <= 3; other++) {
                x.begin(other);
                x.publish(other, 0, 0x1, other, 0);
            }
            check.due("commit(" + c + ")", x.commit(c), 1);
            check.bodies("only its deed", x, 0, c);
            for (int other = 0; other <= 3; other++) {
                check.due("deeds of " + other, x.count(3, other), other == c ? 0 : 1);
            }
        }
    }

    private static void inTheirOrder(Check check) {
        check.sentence(PROMISE, "Does the DEEDS in their order");
        QueueBroker x = holding(2, 1);
        x.publish(1, 0, 0x1, 10, 0);
        x.settle(1, 1, false, 1);
        x.publish(1, 0, 0x1, 11, 0);
        x.settle(1, 2, false, 1);
        check.due("commit", x.commit(1), 4);
        check.bodies("1 came back and was driven out, 2 came back after all", x, 0, 2, 11);
        check.bodies("by places: 1 is less than 10", x, 5, 1, 10);
        QueueBroker y = holding(2, 1);
        y.settle(1, 2, false, 1);
        y.settle(1, 1, false, 1);
        y.publish(1, 0, 0x1, 10, 0);
        y.publish(1, 0, 0x1, 11, 0);
        check.due("commit", y.commit(1), 4);
        check.bodies("both were driven out", y, 0, 11);
        check.bodies("both were driven out", y, 5, 1, 2, 10);
    }

    private static void asTheCallWould(Check check) {
        check.sentence(PROMISE, "each as the call would without a transaction");
        for (int how = 0; how <= 2; how++) {
            QueueBroker in = holding(3, 12);
            in.settle(1, 2, true, how);
            in.commit(1);
            QueueBroker direct = holding(3, 12);
            direct.close(1);
            direct.consume(1, 0, false);
            Check.deliver(direct, 0, 3);
            direct.settle(1, 2, true, how);
            check.due("held", in.count(2, 1), direct.count(2, 1));
            check.due("ready", in.count(0, 0), direct.count(0, 0));
            check.due("returned", in.ready(0, 0, 3), direct.ready(0, 0, 3));
            check.due("letters", in.count(5, 0), direct.count(5, 0));
        }
        QueueBroker x = holding(0, 12);
        int[] bodies = {Integer.MIN_VALUE, Integer.MAX_VALUE, 0, -1};
        int[] keys = {0, 0xdddddddd, 0x1, 0x12345678};
        for (int flags = 0; flags <= 3; flags++) {
            x.publish(1, 0, keys[flags], bodies[flags], flags);
        }
        x.commit(1);
        for (int i = 0; i <= 3; i++) {
            check.due("body", x.ready(0, i, 0), bodies[i]);
            check.due("key", x.ready(0, i, 1), keys[i]);
            check.due("hops", x.ready(0, i, 2), 0);
            check.due("returned", x.ready(0, i, 3), 0);
            check.due("persistent", x.ready(0, i, 4), i & 1);
        }
    }

    private static void exchangeGone(Check check) {
        check.sentence(PROMISE, "also if an exchange [is] gone meanwhile: then nothing");
        QueueBroker x = new QueueBroker();
        x.exchange(0, 1, false);
        x.queue(0, 12, -1, true);
        x.bind(0, 0, 0);
        x.begin(0);
        x.publish(0, 0, 0x1, 1, 1);
        x.crash();
        // Only a crash takes an exchange, and it closes the channel too.
        check.due("the crash ended the transaction", x.commit(0), -3);
        check.bodies("nothing was put", x, 0);
        QueueBroker unbound = holding(0, 12);
        unbound.publish(1, 0, 0x1, 1, 0);
        unbound.unbind(0, 0, 0);
        check.due("its binding is gone", unbound.commit(1), 1);
        check.bodies("nothing was put", unbound, 0);
        QueueBroker dropped = holding(0, 12);
        dropped.publish(1, 0, 0x1, 1, 0);
        dropped.drop(0);
        check.due("its queue is gone", dropped.commit(1), 1);
        check.due("nothing was put", dropped.count(0, 0), 0);
    }

    private static void copiesGone(Check check) {
        check.sentence(PROMISE, "also if .. copies are gone meanwhile: then nothing");
        for (int how = 0; how <= 2; how++) {
            QueueBroker x = holding(3, 12);
            x.settle(1, 2, false, how);
            x.drop(0);
            check.due("commit, how " + how, x.commit(1), 1);
            check.letters("how " + how, x, 0, 0);
            check.due("ready", x.count(0, 0), 0);
            check.bodies("dead queue", x, 5);
        }
    }

    private static void restOfTheCopies(Check check) {
        check.sentence(PROMISE, "or the rest of the copies");
        for (int how = 0; how <= 2; how++) {
            QueueBroker x = holding(2, 12);
            x.queue(3, 12, 1, true);
            x.bind(0, 3, 0);
            Check.publish(x, 7, 8);
            x.consume(1, 3, false);
            Check.deliver(x, 3, 2);
            check.due("tags 1 .. 4", x.settle(1, 0, true, how), 100);
            x.drop(0);
            check.due("commit, how " + how, x.commit(1), 1);
            check.due("held", x.count(2, 1), 0);
            check.due("ready", x.count(0, 3), how == 1 ? 2 : 0);
            check.letters("how " + how, x, how == 2 ? 2 : 0, 0);
            check.due("dead queue", x.count(0, 5), how == 2 ? 2 : 0);
        }
    }

    private static void mandatory(Check check) {
        check.sentence(PROMISE, "MANDATORY is not looked at");
        QueueBroker x = holding(0, 12);
        x.exchange(2, 0, true);
        x.publish(1, 2, 0x1, 1, 2);
        x.publish(1, 2, 0x1, 2, 3);
        x.publish(1, 0, 0x1, 3, 2);
        check.due("commit", x.commit(1), 3);
        check.bodies("what could be put", x, 0, 3);
    }

    private static void thenTheLetters(Check check) {
        check.sentence(PROMISE, "then routes the letters of all of them");
        QueueBroker x = holding(4, 12);
        x.bind(1, 0, 0);
        x.settle(1, 3, false, 2);
        x.publish(1, 0, 0x1, 20, 0);
        x.settle(1, 2, true, 2);
        x.publish(1, 0, 0x1, 21, 0);
        check.due("commit", x.commit(1), 4);
        check.bodies("behind all deeds, in the order in which they came up", x, 0, 20, 21, 3, 1, 2);
        check.letters("three", x, 3, 0);
        QueueBroker more = holding(4, 12);
        more.settle(1, 2, true, 2);
        more.settle(1, 0, true, 2);
        more.commit(1);
        check.letters("three of four, for a commit is one call", more, 3, 1);
        check.bodies("three of four", more, 5, 1, 2, 3);
    }

    private static void afterwards(Check check) {
        check.sentence(PROMISE, "afterwards there are no DEEDS, the MODE stays");
        QueueBroker x = holding(2, 12);
        for (int deed = 0; deed < 4; deed++) {
            x.publish(1, 0, 0x1, deed, 0);
        }
        check.due("commit", x.commit(1), 4);
        check.due("deeds", x.count(3, 1), 0);
        check.due("commit again", x.commit(1), 0);
        check.due("each was done once", x.count(0, 0), 4);
        for (int deed = 0; deed < 4; deed++) {
            check.due("room for four again", x.publish(1, 0, 0x1, deed, 0), 100);
        }
        check.due("and no more", x.publish(1, 0, 0x1, 9, 0), -2);
        check.due("begin", x.begin(1), -3);
    }

    private static void notInATransaction(Check check) {
        check.sentence(PROMISE, "Not in a transaction: STATE");
        Later.unchanged(check, "commit(0)", -3, Busy::broker, x -> x.commit(0));
        Later.unchanged(check, "commit(2)", -3, Busy::broker, x -> x.commit(2));
        for (int c = 0; c <= 3; c++) {
            int channel = c;
            Later.unchanged(check, "commit(" + c + ")", -3, QueueBroker::new, x -> x.commit(channel));
        }
        QueueBroker x = holding(0, 12);
        x.close(1);
        check.due("after a close", x.commit(1), -3);
    }

    private static void howManyDeeds(Check check) {
        check.sentence(PROMISE, "Answers how many DEEDS there were");
        for (int n = 0; n <= 4; n++) {
            QueueBroker x = holding(4, 12);
            for (int deed = 1; deed <= n; deed++) {
                check.due("deed " + deed, deed % 2 == 0 ? x.settle(1, deed, false, 0) : x.publish(1, 0, 0, deed, 0), 100);
            }
            check.due(n + " deeds", x.commit(1), n);
        }
        QueueBroker refused = holding(1, 12);
        for (int deed = 1; deed <= 6; deed++) {
            refused.publish(1, 0, 0, deed, 0);
        }
        check.due("refused ones don't count", refused.commit(1), 4);
    }
}
