import java.util.function.ToLongFunction;

/** Terms: the order in which a call tests its numbers, and that an answer below 0 changes nothing. */
public final class TermsRefusalsTest {
    private static final String NUMBERS = "Every call first tests its numbers: REFUSED. Then what its comment says";
    private static final String NOTHING = "A call with an answer below 0 changes nothing";

    private final Check check = new Check();

    public static void main(String[] args) {
        TermsRefusalsTest test = new TermsRefusalsTest();
        test.numbersBeforeState();
        test.numbersBeforeRoom();
        test.numbersBeforeTheRest();
        test.refused();
        test.full();
        test.state();
        test.unrouted();
        test.empty();
        test.blocked();
        test.getters();
        test.notInANewObject();
        test.check.end();
    }

    private void busy(String call, long want, ToLongFunction<QueueBroker> asked) {
        Later.unchanged(check, call, want, Busy::broker, asked);
    }

    private void numbersBeforeState() {
        check.sentence("Terms (promises 2 to 5, 8, 9, 13 to 15)", NUMBERS);
        busy("exchange(0, 3, false)", -1, x -> x.exchange(0, 3, false));
        busy("queue(0, 13, 1, true)", -1, x -> x.queue(0, 13, 1, true));
        busy("queue(0, 3, 5, true)", -1, x -> x.queue(0, 3, 5, true));
        busy("queue(0, 2, -2, false)", -1, x -> x.queue(0, 2, -2, false));
        busy("bind(3, 0, 0x12)", -1, x -> x.bind(3, 0, 0x12));
        busy("bind(0, 4, 0x12)", -1, x -> x.bind(0, 4, 0x12));
        busy("unbind(3, 0, 0x12)", -1, x -> x.unbind(3, 0, 0x12));
        busy("unbind(0, 4, 0x12)", -1, x -> x.unbind(0, 4, 0x12));
        busy("unbind(0, 0, 0x120)", -1, x -> x.unbind(0, 0, 0x120));
        busy("consume(4, 0, false)", -1, x -> x.consume(4, 0, false));
        busy("consume(2, 4, false)", -1, x -> x.consume(2, 4, false));
        busy("cancel(-1, 0)", -1, x -> x.cancel(-1, 0));
        busy("cancel(2, 4)", -1, x -> x.cancel(2, 4));
        busy("begin(4)", -1, x -> x.begin(4));
        busy("commit(-1)", -1, x -> x.commit(-1));
        busy("rollback(4)", -1, x -> x.rollback(4));
    }

    private void numbersBeforeRoom() {
        check.sentence("Terms (promises 4, 7, 11)", NUMBERS);
        Later.unchanged(check, "bind(3, 0, 0x7)", -1, Busy::fullyBound, x -> x.bind(3, 0, 0x7));
        Later.unchanged(check, "bind(0, 5, 0x7)", -1, Busy::fullyBound, x -> x.bind(0, 5, 0x7));
        Later.unchanged(check, "bind(0, 0, 0x70)", -1, Busy::fullyBound, x -> x.bind(0, 0, 0x70));
        Later.unchanged(check, "bind(0, 0, 0x12)", -3, Busy::fullyBound, x -> x.bind(0, 0, 0x12));
        busy("publish(3, 3, 0x12, 1, 0)", -1, x -> x.publish(3, 3, 0x12, 1, 0));
        busy("publish(3, 0, 0x1e, 1, 0)", -1, x -> x.publish(3, 0, 0x1e, 1, 0));
        busy("publish(3, 0, 0x12, 1, 4)", -1, x -> x.publish(3, 0, 0x12, 1, 4));
        busy("settle(3, -1, true, 0)", -1, x -> x.settle(3, -1, true, 0));
        busy("settle(3, 0, false, 0)", -1, x -> x.settle(3, 0, false, 0));
        busy("settle(3, 2, false, 3)", -1, x -> x.settle(3, 2, false, 3));
        busy("settle(3, 1, false, 0), which a deed is to settle", -1, x -> x.settle(3, 1, false, 0));
        busy("settle(3, 3, false, 0), which isn't there", -1, x -> x.settle(3, 3, false, 0));
    }

    private void numbersBeforeTheRest() {
        check.sentence("Terms (promises 7, 10)", NUMBERS);
        busy("publish(4, 0, 0x7, 1, 2)", -1, x -> x.publish(4, 0, 0x7, 1, 2));
        busy("publish(0, 4, 0x7, 1, 2)", -1, x -> x.publish(0, 4, 0x7, 1, 2));
        busy("publish(0, 0, 0x70, 1, 2)", -1, x -> x.publish(0, 0, 0x70, 1, 2));
        busy("publish(0, 0, 0x7, 1, 6)", -1, x -> x.publish(0, 0, 0x7, 1, 6));
        busy("deliver(4), which isn't declared", -1, x -> x.deliver(4));
        busy("deliver(6)", -1, x -> x.deliver(6));
    }

    private void refused() {
        check.sentence("Terms (REFUSED)", NOTHING);
        int[] wild = {Integer.MIN_VALUE, Integer.MAX_VALUE};
        for (int n : wild) {
            busy("exchange(" + n + ", 0, true)", -1, x -> x.exchange(n, 0, true));
            busy("exchange(3, " + n + ", true)", -1, x -> x.exchange(3, n, true));
            busy("queue(" + n + ", 1, 0, true)", -1, x -> x.queue(n, 1, 0, true));
            busy("queue(4, " + n + ", 0, true)", -1, x -> x.queue(4, n, 0, true));
            busy("queue(4, 1, " + n + ", true)", -1, x -> x.queue(4, 1, n, true));
            busy("bind(" + n + ", 0, 0x7)", -1, x -> x.bind(n, 0, 0x7));
            busy("bind(0, " + n + ", 0x7)", -1, x -> x.bind(0, n, 0x7));
            busy("unbind(" + n + ", 0, 0x12)", -1, x -> x.unbind(n, 0, 0x12));
            busy("unbind(0, " + n + ", 0x12)", -1, x -> x.unbind(0, n, 0x12));
            busy("drop(" + n + ")", -1, x -> x.drop(n));
            busy("publish(" + n + ", 0, 0x12, 1, 0)", -1, x -> x.publish(n, 0, 0x12, 1, 0));
            busy("publish(0, " + n + ", 0x12, 1, 0)", -1, x -> x.publish(0, n, 0x12, 1, 0));
            busy("publish(0, 0, 0x12, 1, " + n + ")", -1, x -> x.publish(0, 0, 0x12, 1, n));
            busy("consume(" + n + ", 0, true)", -1, x -> x.consume(n, 0, true));
            busy("consume(1, " + n + ", true)", -1, x -> x.consume(1, n, true));
            busy("cancel(" + n + ", 0)", -1, x -> x.cancel(n, 0));
            busy("cancel(0, " + n + ")", -1, x -> x.cancel(0, n));
            busy("deliver(" + n + ")", -1, x -> x.deliver(n));
            busy("settle(" + n + ", 0, true, 0)", -1, x -> x.settle(n, 0, true, 0));
            busy("settle(0, " + n + ", false, 0)", -1, x -> x.settle(0, n, false, 0));
            busy("settle(0, 2, true, " + n + ")", -1, x -> x.settle(0, 2, true, n));
            busy("prefetch(" + n + ", 3)", -1, x -> x.prefetch(n, 3));
            busy("prefetch(0, " + n + ")", -1, x -> x.prefetch(0, n));
            busy("begin(" + n + ")", -1, x -> x.begin(n));
            busy("commit(" + n + ")", -1, x -> x.commit(n));
            busy("rollback(" + n + ")", -1, x -> x.rollback(n));
            busy("close(" + n + ")", -1, x -> x.close(n));
        }
        busy("settle(0, MIN, true, 0)", -1, x -> x.settle(0, Integer.MIN_VALUE, true, 0));
    }

    private void full() {
        check.sentence("Terms (FULL)", NOTHING);
        Later.unchanged(check, "bind(0, 0, 0x7)", -2, Busy::fullyBound, x -> x.bind(0, 0, 0x7));
        Later.unchanged(check, "bind(2, 2, 0xff)", -2, Busy::fullyBound, x -> x.bind(2, 2, 0xff));
        busy("publish(3, 0, 0x12, 1, 0)", -2, x -> x.publish(3, 0, 0x12, 1, 0));
        busy("publish(3, 0, 0x7, 1, 3)", -2, x -> x.publish(3, 0, 0x7, 1, 3));
        for (int how = 0; how <= 2; how++) {
            int kind = how;
            busy("settle(3, 2, false, " + how + ")", -2, x -> x.settle(3, 2, false, kind));
            busy("settle(3, 0, true, " + how + ")", -2, x -> x.settle(3, 0, true, kind));
        }
    }

    private void state() {
        check.sentence("Terms (STATE)", NOTHING);
        busy("exchange(1, 0, false)", -3, x -> x.exchange(1, 0, false));
        busy("exchange(1, 2, true)", -3, x -> x.exchange(1, 2, true));
        busy("exchange(1, 1, true)", -3, x -> x.exchange(1, 1, true));
        busy("exchange(2, 2, false)", -3, x -> x.exchange(2, 2, false));
        busy("queue(1, 11, 2, false)", -3, x -> x.queue(1, 11, 2, false));
        busy("queue(1, 12, 1, false)", -3, x -> x.queue(1, 12, 1, false));
        busy("queue(1, 12, -1, false)", -3, x -> x.queue(1, 12, -1, false));
        busy("queue(1, 12, 2, true)", -3, x -> x.queue(1, 12, 2, true));
        busy("bind(2, 0, 0x1f)", -3, x -> x.bind(2, 0, 0x1f));
        busy("unbind(2, 0, 0x1e)", -3, x -> x.unbind(2, 0, 0x1e));
        busy("unbind(0, 0, 0x1f)", -3, x -> x.unbind(0, 0, 0x1f));
        busy("consume(2, 0, false)", -3, x -> x.consume(2, 0, false));
        busy("consume(2, 0, true)", -3, x -> x.consume(2, 0, true));
        busy("consume(3, 0, false)", -3, x -> x.consume(3, 0, false));
        busy("cancel(1, 0)", -3, x -> x.cancel(1, 0));
        busy("begin(1)", -3, x -> x.begin(1));
        busy("begin(3)", -3, x -> x.begin(3));
        busy("commit(0)", -3, x -> x.commit(0));
        busy("commit(2)", -3, x -> x.commit(2));
        busy("rollback(0)", -3, x -> x.rollback(0));
        busy("rollback(2)", -3, x -> x.rollback(2));
    }

    private void unrouted() {
        check.sentence("Terms (UNROUTED)", NOTHING);
        busy("publish(0, 0, 0x7, 1, 2)", -4, x -> x.publish(0, 0, 0x7, 1, 2));
        busy("publish(2, 0, 0, 1, 3)", -4, x -> x.publish(2, 0, 0, 1, 3));
    }

    private void empty() {
        check.sentence("Terms (EMPTY)", NOTHING);
        busy("deliver(3)", -5, x -> x.deliver(3));
    }

    private void blocked() {
        check.sentence("Terms (BLOCKED)", NOTHING);
        busy("deliver(2)", -6, x -> x.deliver(2));
    }

    private void getters() {
        check.sentence("Terms (promises 18 to 20)", NOTHING);
        busy("ready(4, 0, 0)", QueueBroker.NONE, x -> x.ready(4, 0, 0));
        busy("ready(0, 2, 0)", QueueBroker.NONE, x -> x.ready(0, 2, 0));
        busy("ready(0, 0, 5)", QueueBroker.NONE, x -> x.ready(0, 0, 5));
        busy("held(0, 1, 0)", QueueBroker.NONE, x -> x.held(0, 1, 0));
        busy("held(0, 0, 8)", QueueBroker.NONE, x -> x.held(0, 0, 8));
        busy("count(8, 0)", -1000, x -> x.count(8, 0));
        busy("count(0, 6)", -1000, x -> x.count(0, 6));
        busy("count(3, 0)", -1, x -> x.count(3, 0));
        busy("count(7, 3)", -1, x -> x.count(7, 3));
    }

    private void notInANewObject() {
        check.sentence("Terms (a new object)", NOTHING);
        fresh("exchange(5, 0, true)", x -> x.exchange(5, 0, true));
        fresh("exchange(0, 3, true)", x -> x.exchange(0, 3, true));
        fresh("queue(6, 1, 0, true)", x -> x.queue(6, 1, 0, true));
        fresh("queue(0, 0, 0, true)", x -> x.queue(0, 0, 0, true));
        fresh("queue(0, 1, 5, true)", x -> x.queue(0, 1, 5, true));
        fresh("bind(0, 0, 0)", x -> x.bind(0, 0, 0));
        fresh("unbind(0, 0, 0)", x -> x.unbind(0, 0, 0));
        fresh("drop(0)", x -> x.drop(0));
        fresh("publish(0, 0, 0, 1, 0)", x -> x.publish(0, 0, 0, 1, 0));
        fresh("consume(0, 0, false)", x -> x.consume(0, 0, false));
        fresh("cancel(0, 0)", x -> x.cancel(0, 0));
        fresh("deliver(0)", x -> x.deliver(0));
        fresh("settle(0, 0, true, 0)", x -> x.settle(0, 0, true, 0));
        fresh("prefetch(0, 13)", x -> x.prefetch(0, 13));
    }

    private void fresh(String call, ToLongFunction<QueueBroker> asked) {
        Later.unchanged(check, call, -1, QueueBroker::new, asked);
    }
}
