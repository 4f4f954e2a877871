/** Promise 11: settle, sentence by sentence. */
public final class P11SettleEdgesTest {
    private static final String PROMISE = "Promise 11";

    public static void main(String[] args) {
        Check check = new Check();
        channels(check);
        hows(check);
        underTheTag(check);
        allTagsUpToThisOne(check);
        tagZeroWithWhole(check);
        tagBelowZero(check);
        tagZeroWithoutWhole(check);
        howNotInRange(check);
        copiesOfADeed(check);
        none(check);
        fourDeeds(check);
        deedForTheseCopies(check);
        inRisingOrderOfTags(check);
        lettersAreRouted(check);
        howMany(check);
        check.end();
    }

    /** Channel 1 holds bodies 1 .. n of queue 0 under the tags 1 .. n. */
    private static QueueBroker holding(int n) {
        QueueBroker x = Check.toAll(1, 12, -1);
        x.consume(1, 0, false);
        Check.publish(x, 1, n);
        Check.deliver(x, 0, n);
        return x;
    }

    private static void channels(Check check) {
        check.sentence(PROMISE, "what the channel HOLDS (channel 0 .. 3)");
        int[] wrong = {-1, 4};
        for (int c : wrong) {
            Later.unchanged(check, "settle(" + c + ", 1, false, 0)", -1, Busy::broker, x -> x.settle(c, 1, false, 0));
            Later.unchanged(check, "settle(" + c + ", 0, true, 2)", -1, Busy::broker, x -> x.settle(c, 0, true, 2));
        }
        for (int c = 0; c <= 3; c++) {
            QueueBroker x = Check.toAll(1, 12, -1);
            for (int other = 0; other <= 3; other++) {
                x.consume(other, 0, false);
            }
            Check.publish(x, 1, 8);
            Check.deliver(x, 0, 8);
            check.due("settle(" + c + ", 0, true, 0)", x.settle(c, 0, true, 0), 2);
            for (int other = 0; other <= 3; other++) {
                check.due("held by " + other, x.count(2, other), other == c ? 0 : 2);
            }
        }
    }

    private static void hows(Check check) {
        check.sentence(PROMISE, "(how 0 ACCEPT, 1 RETURN, 2 REJECT)");
        for (int how = 0; how <= 2; how++) {
            QueueBroker x = holding(1);
            check.due("how " + how, x.settle(1, 1, false, how), 1);
            check.due("held", x.count(2, 1), 0);
            check.due("ready", x.count(0, 0), how == 1 ? 1 : 0);
            check.letters("how " + how, x, 0, how == 2 ? 1 : 0);
        }
    }

    private static void underTheTag(Check check) {
        check.sentence(PROMISE, "what the channel HOLDS under the tag");
        for (int tag = 1; tag <= 12; tag++) {
            QueueBroker x = holding(12);
            check.due("tag " + tag, x.settle(1, tag, false, 1), 1);
            check.due("it came back", x.ready(0, 0, 0), tag);
            check.due("the others are held", x.count(2, 1), 11);
            check.due("tag " + tag + " again", x.settle(1, tag, false, 1), -1);
        }
    }

    private static void allTagsUpToThisOne(Check check) {
        check.sentence(PROMISE, "or, with whole, under all tags up to this one");
        for (int tag = 1; tag <= 13; tag++) {
            QueueBroker x = holding(12);
            int due = Math.min(tag, 12);
            check.due("up to " + tag, x.settle(1, tag, true, 1), due);
            check.due("they came back", x.count(0, 0), due);
            check.due("the last of them", x.ready(0, due - 1, 0), due);
            check.due("the others are held", x.count(2, 1), 12 - due);
            check.due("the first of them", x.held(1, 0, 5), tag < 12 ? tag + 1 : QueueBroker.NONE);
            check.due("up to " + tag + " again", x.settle(1, tag, true, 1), -1);
        }
        check.due("up to the highest number", holding(12).settle(1, Integer.MAX_VALUE, true, 0), 12);
        QueueBroker gaps = holding(12);
        gaps.settle(1, 1, false, 0);
        gaps.settle(1, 5, false, 0);
        gaps.settle(1, 6, false, 0);
        check.due("up to a tag that is gone", gaps.settle(1, 6, true, 0), 3);
        check.tags("after it", gaps, 1, 7, 8, 9, 10, 11, 12);
        check.due("up to one below the first", gaps.settle(1, 6, true, 0), -1);
        check.due("up to the first", gaps.settle(1, 7, true, 0), 1);
    }

    private static void tagZeroWithWhole(Check check) {
        check.sentence(PROMISE, "tag 0 with whole means all");
        for (int n = 1; n <= 12; n++) {
            QueueBroker x = holding(n);
            check.due("all of " + n, x.settle(1, 0, true, 1), n);
            check.due("held", x.count(2, 1), 0);
            check.due("ready", x.count(0, 0), n);
        }
    }

    private static void tagBelowZero(Check check) {
        check.sentence(PROMISE, "tag below 0 .. : REFUSED");
        int[] wrong = {-1, -2, Integer.MIN_VALUE};
        for (int tag : wrong) {
            Later.unchanged(check, "tag " + tag, -1, Busy::broker, x -> x.settle(0, tag, false, 0));
            Later.unchanged(check, "up to tag " + tag, -1, Busy::broker, x -> x.settle(0, tag, true, 0));
            Later.unchanged(check, "tag " + tag + " in a transaction", -1, Busy::broker, x -> x.settle(1, tag, true, 1));
        }
    }

    private static void tagZeroWithoutWhole(Check check) {
        check.sentence(PROMISE, "or 0 without whole .. : REFUSED");
        Later.unchanged(check, "tag 0, accept", -1, Busy::broker, x -> x.settle(0, 0, false, 0));
        Later.unchanged(check, "tag 0, return", -1, Busy::broker, x -> x.settle(0, 0, false, 1));
        Later.unchanged(check, "tag 0, reject", -1, Busy::broker, x -> x.settle(2, 0, false, 2));
        Later.unchanged(check, "tag 0 in a transaction", -1, Busy::broker, x -> x.settle(1, 0, false, 0));
    }

    private static void howNotInRange(Check check) {
        check.sentence(PROMISE, "or how not 0 .. 2: REFUSED");
        int[] wrong = {-1, 3};
        for (int how : wrong) {
            Later.unchanged(check, "tag 2, how " + how, -1, Busy::broker, x -> x.settle(0, 2, false, how));
            Later.unchanged(check, "all, how " + how, -1, Busy::broker, x -> x.settle(0, 0, true, how));
            Later.unchanged(check, "how " + how + " in a transaction", -1, Busy::broker, x -> x.settle(1, 2, false, how));
        }
    }

    private static void copiesOfADeed(Check check) {
        check.sentence(PROMISE, "Copies that a DEED of the channel is to settle don't count as held here");
        QueueBroker x = holding(6);
        x.begin(1);
        check.due("tag 2", x.settle(1, 2, false, 0), 100);
        check.due("tag 2 again", x.settle(1, 2, false, 1), -1);
        check.due("up to 3: tags 1 and 3", x.settle(1, 3, true, 1), 100);
        check.due("up to 3 again", x.settle(1, 3, true, 1), -1);
        check.due("the rest", x.settle(1, 0, true, 2), 100);
        check.due("nothing is left", x.settle(1, 0, true, 0), -1);
        check.due("a fourth deed is not there", x.count(3, 1), 3);
        x.commit(1);
        check.bodies("1 and 3 were returned", x, 0, 1, 3);
        check.letters("4, 5 and 6 were rejected", x, 0, 3);
        QueueBroker back = holding(2);
        back.begin(1);
        back.settle(1, 0, true, 0);
        back.rollback(1);
        check.due("they count again after a rollback", back.settle(1, 0, true, 0), 100);
        Later.unchanged(check, "settle(1, 1, false, 0)", -1, Busy::broker, y -> y.settle(1, 1, false, 0));
        Later.unchanged(check, "settle(1, 1, true, 0)", -1, Busy::broker, y -> y.settle(1, 1, true, 0));
    }

    private static void none(Check check) {
        check.sentence(PROMISE, "There is none: REFUSED");
        Later.unchanged(check, "a tag below", -1, Busy::broker, x -> x.settle(0, 1, false, 0));
        Later.unchanged(check, "all tags below", -1, Busy::broker, x -> x.settle(0, 1, true, 0));
        Later.unchanged(check, "a tag above", -1, Busy::broker, x -> x.settle(0, 3, false, 0));
        Later.unchanged(check, "the highest tag", -1, Busy::broker, x -> x.settle(0, Integer.MAX_VALUE, false, 2));
        Later.unchanged(check, "a tag of another channel", -1, Busy::broker, x -> x.settle(2, 2, false, 0));
        for (int c = 0; c <= 3; c++) {
            int channel = c;
            Later.unchanged(check, "nothing held by " + c, -1, QueueBroker::new, x -> x.settle(channel, 0, true, 0));
        }
        QueueBroker x = holding(0);
        x.begin(1);
        check.due("nothing held, in a transaction", x.settle(1, 0, true, 0), -1);
        check.due("no deed", x.count(3, 1), 0);
    }

    private static void fourDeeds(Check check) {
        check.sentence(PROMISE, "In a transaction: it has 4 DEEDS: FULL");
        QueueBroker x = holding(6);
        x.begin(1);
        for (int tag = 1; tag <= 4; tag++) {
            check.due("deed " + tag, x.settle(1, tag, false, 0), 100);
        }
        check.due("deed 5", x.settle(1, 5, false, 0), -2);
        check.due("deed 5, all", x.settle(1, 0, true, 0), -2);
        check.due("nothing there is told first", x.settle(1, 7, false, 0), -1);
        check.due("one of a deed is told first", x.settle(1, 4, true, 0), -1);
        check.due("mark of tag 5", x.held(1, 4, 7), 0);
        check.due("commit", x.commit(1), 4);
        check.tags("after it", x, 1, 5, 6);
        check.due("room again", x.settle(1, 0, true, 0), 100);
        Later.unchanged(check, "settle(3, 2, false, 0)", -2, Busy::broker, y -> y.settle(3, 2, false, 0));
        Later.unchanged(check, "settle(3, 2, true, 1)", -2, Busy::broker, y -> y.settle(3, 2, true, 1));
        Later.unchanged(check, "settle(3, 0, true, 2)", -2, Busy::broker, y -> y.settle(3, 0, true, 2));
    }

    private static void deedForTheseCopies(Check check) {
        check.sentence(PROMISE, "else the DEED is added for these copies: NOTED");
        QueueBroker x = holding(3);
        x.begin(1);
        check.due("all", x.settle(1, 0, true, 0), 100);
        Check.publish(x, 4, 4);
        x.deliver(0);
        check.due("a copy that came later has no part in it", x.held(1, 3, 7), 0);
        for (int i = 0; i < 3; i++) {
            check.due("the others have", x.held(1, i, 7), 1);
        }
        check.due("all are held till the commit", x.count(2, 1), 4);
        x.commit(1);
        check.tags("after it", x, 1, 4);
    }

    private static void inRisingOrderOfTags(Check check) {
        check.sentence(PROMISE, "Else they're settled, in rising order of tags");
        QueueBroker x = Check.toAll(1, 12, 1);
        x.exchange(1, 1, true);
        x.queue(5, 12, -1, true);
        x.bind(1, 5, 0);
        x.consume(1, 0, false);
        Check.publish(x, 1, 4);
        Check.deliver(x, 0, 4);
        x.settle(1, 1, false, 1);
        x.settle(1, 3, false, 1);
        Check.deliver(x, 0, 2);
        check.due("bodies 2, 4, 1 and 3 under tags 2, 4, 5 and 6", x.settle(1, 0, true, 2), 4);
        check.bodies("the first three letters", x, 5, 2, 4, 1);
        check.letters("the first three letters", x, 3, 1);
    }

    private static void lettersAreRouted(Check check) {
        check.sentence(PROMISE, "and letters are routed");
        for (int how = 0; how <= 2; how++) {
            QueueBroker x = Check.toAll(1, 12, 0);
            x.consume(1, 0, false);
            Check.publish(x, 1, 2);
            Check.deliver(x, 0, 2);
            x.settle(1, 0, true, how);
            check.letters("how " + how, x, how == 2 ? 2 : 0, 0);
            check.due("copies", x.count(0, 0), how == 0 ? 0 : 2);
            check.due("hops", x.ready(0, 0, 2), how == 0 ? QueueBroker.NONE : how == 1 ? 0 : 1);
            check.due("returned", x.ready(0, 0, 3), how == 0 ? QueueBroker.NONE : how == 1 ? 1 : 0);
        }
    }

    private static void howMany(Check check) {
        check.sentence(PROMISE, "Answers how many");
        for (int how = 0; how <= 2; how++) {
            for (int n = 1; n <= 12; n++) {
                check.due("all of " + n + ", how " + how, holding(n).settle(1, 0, true, how), n);
                check.due("the last of " + n + ", how " + how, holding(n).settle(1, n, false, how), 1);
            }
        }
    }
}
