/** Promise 1: a new object, sentence by sentence. */
public final class P01NewObjectEdgesTest {
    private static final String PROMISE = "Promise 1";

    public static void main(String[] args) {
        Check check = new Check();
        noExchange(check);
        noQueue(check);
        everythingIsFree(check);
        nothingIsShown(check);
        check.end();
    }

    private static void noExchange(Check check) {
        check.sentence(PROMISE, "Nothing is declared: no exchange");
        for (int e = 0; e <= 4; e++) {
            QueueBroker x = new QueueBroker();
            x.queue(0, 1, -1, true);
            check.due("bind(" + e + ", 0, 0)", x.bind(e, 0, 0), -1);
            check.due("unbind(" + e + ", 0, 0)", x.unbind(e, 0, 0), -1);
            check.due("publish by " + e, x.publish(0, e, 0, 1, 0), -1);
            check.due("bindings of " + e, x.count(4, e), 0);
        }
    }

    private static void noQueue(Check check) {
        check.sentence(PROMISE, "Nothing is declared: no queue");
        for (int q = 0; q <= 5; q++) {
            QueueBroker x = new QueueBroker();
            x.exchange(0, 1, true);
            check.due("bind(0, " + q + ", 0)", x.bind(0, q, 0), -1);
            check.due("unbind(0, " + q + ", 0)", x.unbind(0, q, 0), -1);
            check.due("drop(" + q + ")", x.drop(q), -1);
            check.due("consume(0, " + q + ")", x.consume(0, q, true), -1);
            check.due("cancel(0, " + q + ")", x.cancel(0, q), -1);
            check.due("deliver(" + q + ")", x.deliver(q), -1);
        }
    }

    private static void everythingIsFree(Check check) {
        check.sentence(PROMISE, "Nothing is declared: any declaration is the first");
        for (int type = 0; type <= 2; type++) {
            QueueBroker x = new QueueBroker();
            for (int e = 0; e <= 4; e++) {
                check.due("exchange(" + e + ", " + type + ", ..)", x.exchange(e, type, e % 2 == 0), 0);
            }
        }
        for (int limit = 1; limit <= 12; limit++) {
            for (int dead = -1; dead <= 4; dead++) {
                QueueBroker x = new QueueBroker();
                for (int q = 0; q <= 5; q++) {
                    check.due("queue(" + q + ", " + limit + ", " + dead + ", ..)", x.queue(q, limit, dead, q % 2 == 0), 0);
                }
            }
        }
    }

    private static void nothingIsShown(Check check) {
        check.sentence(PROMISE, "Nothing is declared: the getters show nothing");
        QueueBroker x = new QueueBroker();
        for (int q = 0; q <= 5; q++) {
            check.due("ready copies", x.count(0, q), 0);
            check.due("consumers", x.count(1, q), 0);
            for (int field = 0; field <= 4; field++) {
                check.due("ready(" + q + ", 0, " + field + ")", x.ready(q, 0, field), QueueBroker.NONE);
            }
        }
        for (int c = 0; c <= 3; c++) {
            check.due("held copies", x.count(2, c), 0);
            check.due("deeds", x.count(3, c), -1);
            check.due("row of queue 0", x.count(7, c), -1);
            for (int field = 0; field <= 7; field++) {
                check.due("held(" + c + ", 0, " + field + ")", x.held(c, 0, field), QueueBroker.NONE);
            }
        }
        check.letters("new", x, 0, 0);
        check.due("crash", x.crash(), 0);
    }
}
