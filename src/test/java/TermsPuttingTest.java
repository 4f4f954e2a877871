/** Terms: COPIES, PLACES and PUTTING, at the edges of the LIMIT. */
public final class TermsPuttingTest {
    private static final String TERMS = "Terms (promises 7, 11, 14)";

    public static void main(String[] args) {
        Check check = new Check();
        newCopy(check);
        orderedByPlaces(check);
        placesGoOn(check);
        moreThanItsLimit(check);
        onlyReadyCopiesCount(check);
        leastPlaceGoes(check);
        whileThereAreMore(check);
        allAboveTheLimitAtOnce(check);
        check.end();
    }

    private static void newCopy(Check check) {
        check.sentence(TERMS, "a new READY copy, not RETURNED");
        QueueBroker x = Check.toAll(1, 1, 0);
        x.publish(0, 0, 0x12, 7, 0);
        check.due("ready", x.count(0, 0), 1);
        check.due("returned", x.ready(0, 0, 3), 0);
        x.consume(0, 0, false);
        x.deliver(0);
        check.due("returned, when held", x.held(0, 0, 3), 0);
        x.settle(0, 1, false, 1);
        check.due("returned, when it came back", x.ready(0, 0, 3), 1);
        x.deliver(0);
        check.due("returned, when held again", x.held(0, 0, 3), 1);
        x.settle(0, 2, false, 2);
        check.due("a letter is put as a new copy", x.ready(0, 0, 3), 0);
    }

    private static void orderedByPlaces(Check check) {
        check.sentence(TERMS, "The READY copies of a queue are ordered by PLACES");
        QueueBroker x = Check.toAll(1, 12, -1);
        Check.publish(x, 1, 12);
        x.consume(0, 0, false);
        Check.deliver(x, 0, 12);
        int[] order = {7, 12, 1, 6, 11, 2, 3, 10, 4, 9, 5, 8};
        for (int tag : order) {
            x.settle(0, tag, false, 1);
        }
        check.bodies("by places, not as they came back", x, 0, 1, 2, 3, 4, 5, 6, 7, 8, 9, 10, 11, 12);
    }

    private static void placesGoOn(Check check) {
        check.sentence(TERMS, "each copy put gets a PLACE above all given before in the broker");
        QueueBroker x = Check.toAll(1, 12, -1);
        x.publish(0, 0, 0x1, 1, 1);
        x.consume(0, 0, false);
        x.deliver(0);
        x.publish(0, 0, 0x1, 2, 1);
        x.settle(0, 1, false, 1);
        check.bodies("put while the first was held", x, 0, 1, 2);
        x.consume(1, 0, true);
        x.cancel(0, 0);
        Check.deliver(x, 0, 1);
        x.publish(0, 0, 0x1, 3, 1);
        check.bodies("put when the least one is gone", x, 0, 2, 3);
        x.consume(0, 0, false);
        x.cancel(1, 0);
        Check.deliver(x, 0, 2);
        x.publish(0, 0, 0x1, 4, 1);
        x.close(0);
        check.bodies("put while the queue had no ready copy", x, 0, 2, 3, 4);
        x.crash();
        x.publish(0, 0, 0x1, 5, 1);
        check.bodies("put behind what a crash left", x, 0, 2, 3, 4, 5);
    }

    private static void moreThanItsLimit(Check check) {
        check.sentence(TERMS, "while the queue has more READY copies than its LIMIT");
        for (int limit = 1; limit <= 12; limit++) {
            QueueBroker x = Check.toAll(1, limit, -1);
            for (int body = 1; body <= limit; body++) {
                Check.publish(x, body, body);
                check.due("copies, limit " + limit, x.count(0, 0), body);
                check.letters("as many as the limit " + limit, x, 0, 0);
            }
            for (int more = 1; more <= 3; more++) {
                Check.publish(x, limit + more, limit + more);
                check.due("copies, limit " + limit, x.count(0, 0), limit);
                check.due("the first of them", x.ready(0, 0, 0), 1 + more);
                check.due("the last of them", x.ready(0, limit - 1, 0), limit + more);
                check.letters("one more than the limit " + limit, x, 0, more);
            }
        }
    }

    private static void onlyReadyCopiesCount(Check check) {
        check.sentence(TERMS, "more READY copies than its LIMIT: those HELD don't count");
        for (int limit = 1; limit <= 12; limit++) {
            QueueBroker x = Check.toAll(1, limit, -1);
            Check.publish(x, 1, limit);
            x.consume(0, 0, false);
            Check.deliver(x, 0, limit);
            Check.publish(x, 21, 20 + limit);
            check.letters("as many held as ready, limit " + limit, x, 0, 0);
            check.due("ready", x.count(0, 0), limit);
            Check.publish(x, 99, 99);
            check.letters("one more", x, 0, 1);
            check.due("held", x.count(2, 0), limit);
        }
    }

    private static void leastPlaceGoes(Check check) {
        check.sentence(TERMS, "the one with the least PLACE goes and becomes a LETTER");
        QueueBroker x = Check.toAll(1, 2, -1);
        x.consume(0, 0, false);
        Check.publish(x, 1, 2);
        Check.deliver(x, 0, 2);
        Check.publish(x, 3, 3);
        x.settle(0, 2, false, 1);
        check.bodies("at the limit", x, 0, 2, 3);
        Check.publish(x, 4, 4);
        check.bodies("the one that came back has the least place", x, 0, 3, 4);
        x.settle(0, 1, false, 1);
        check.bodies("one above the limit", x, 0, 1, 3, 4);
        Check.publish(x, 5, 5);
        check.bodies("two went, from the least place on", x, 0, 4, 5);
        check.letters("in all", x, 0, 3);
        QueueBroker one = Check.toAll(1, 1, -1);
        Check.publish(one, 1, 2);
        check.bodies("with the limit 1 the new one stays", one, 0, 2);
    }

    private static void whileThereAreMore(Check check) {
        check.sentence(TERMS, "while the queue has more: none, one or several go by one put");
        for (int back = 0; back <= 4; back++) {
            QueueBroker x = Check.toAll(1, 4, -1);
            x.consume(0, 0, false);
            Check.publish(x, 1, 4);
            Check.deliver(x, 0, 4);
            Check.publish(x, 5, 8);
            if (back > 0) {
                check.due("back", x.settle(0, back, true, 1), back);
            }
            check.due("above the limit", x.count(0, 0), 4 + back);
            check.letters("coming back drives none out", x, 0, 0);
            Check.publish(x, 9, 9);
            check.bodies(back + " had come back", x, 0, 6, 7, 8, 9);
            check.letters(back + " had come back", x, 0, back + 1);
        }
    }

    private static void allAboveTheLimitAtOnce(Check check) {
        check.sentence(TERMS, "while the queue has more READY copies than its LIMIT: the most that can be");
        QueueBroker x = Check.toAll(1, 1, -1);
        for (int c = 0; c < 4; c++) {
            x.consume(c, 0, false);
        }
        for (int body = 1; body <= 48; body++) {
            Check.publish(x, body, body);
            x.deliver(0);
        }
        Check.publish(x, 49, 49);
        check.due("nobody has room", x.deliver(0), -6);
        for (int c = 0; c < 4; c++) {
            check.due("held", x.count(2, c), 12);
            check.due("all back", x.settle(c, 0, true, 1), 12);
        }
        check.due("ready", x.count(0, 0), 49);
        check.due("the last one", x.ready(0, 48, 0), 49);
        check.due("publish", x.publish(0, 0, 0x12, 50, 0), 1);
        check.bodies("only the new one stays", x, 0, 50);
        check.letters("all others went", x, 0, 49);
    }
}
