import java.util.ArrayList;
import java.util.List;
import java.util.function.Function;
import java.util.function.Supplier;
import java.util.function.ToLongFunction;

/**
 * What later calls show of one that changes nothing: two brokers are made by the same calls, one of them gets that call
 * besides, and then both must answer alike whatever they are asked. Each question has a new pair of brokers, so that
 * none gets more than 512 calls.
 */
final class Later {
    private static final int[] PATTERNS = {0, 0x1, 0x2, 0x5, 0x7, 0xd, 0xe, 0xf, 0x12, 0x1f, 0xff};
    private static final List<Function<QueueBroker, String>> QUESTIONS = questions();

    private Later() {
    }

    /** The call must answer want, and nothing that later calls show may be otherwise by it. */
    static void unchanged(Check check, String call, long want, Supplier<QueueBroker> made,
            ToLongFunction<QueueBroker> asked) {
        check.due(call, asked.applyAsLong(made.get()), want);
        for (Function<QueueBroker, String> question : QUESTIONS) {
            QueueBroker tried = made.get();
            asked.applyAsLong(tried);
            check.same(call + " changed something", question.apply(tried), question.apply(made.get()));
        }
    }

    private static List<Function<QueueBroker, String>> questions() {
        List<Function<QueueBroker, String>> all = new ArrayList<>();
        for (int n = 0; n < 6; n++) {
            int q = n;
            all.add(x -> readyCopies(x, q));
            all.add(x -> declarationOfQueue(x, q));
        }
        for (int n = 0; n < 5; n++) {
            int e = n;
            all.add(x -> declarationOfExchange(x, e));
            all.add(x -> bindings(x, e));
        }
        for (int n = 0; n < 4; n++) {
            int c = n;
            all.add(x -> heldCopies(x, c));
            all.add(x -> prefetch(x, c));
            all.add(x -> x.commit(c) + state(x));
            all.add(x -> x.rollback(c) + " " + x.settle(c, 0, true, 1) + " " + x.commit(c) + state(x));
            all.add(x -> x.settle(c, 0, true, 2) + state(x));
            all.add(x -> x.close(c) + state(x));
            all.add(x -> x.begin(c) + state(x));
        }
        all.add(Later::state);
        all.add(x -> x.crash() + state(x));
        all.add(Later::drops);
        all.add(Later::rows);
        all.add(Later::roomForBindings);
        all.add(Later::publishing);
        all.add(Later::deliveries);
        all.add(Later::deliveriesOfMore);
        return all;
    }

    /** All counts, and the bodies of all copies. */
    static String state(QueueBroker x) {
        StringBuilder text = new StringBuilder(" state:");
        for (int what = 0; what <= 7; what++) {
            for (int i = 0; i <= (what == 5 || what == 6 ? 0 : 5); i++) {
                text.append(' ').append(x.count(what, i));
            }
        }
        for (int q = 0; q < 6; q++) {
            text.append(" queue ").append(q);
            for (int i = 0; x.ready(q, i, 0) != QueueBroker.NONE; i++) {
                text.append(' ').append(x.ready(q, i, 0));
            }
        }
        return text.append(tags(x)).toString();
    }

    private static String tags(QueueBroker x) {
        StringBuilder text = new StringBuilder();
        for (int c = 0; c < 4; c++) {
            text.append(" tags of ").append(c);
            for (int i = 0; x.held(c, i, 5) != QueueBroker.NONE; i++) {
                text.append(' ').append(x.held(c, i, 5)).append(':').append(x.held(c, i, 0));
            }
        }
        return text.toString();
    }

    private static String readyCopies(QueueBroker x, int q) {
        StringBuilder text = new StringBuilder("ready:");
        for (int i = 0; x.ready(q, i, 0) != QueueBroker.NONE; i++) {
            for (int field = 0; field <= 4; field++) {
                text.append(' ').append(x.ready(q, i, field));
            }
        }
        return text.toString();
    }

    private static String heldCopies(QueueBroker x, int c) {
        StringBuilder text = new StringBuilder("held:");
        for (int i = 0; x.held(c, i, 0) != QueueBroker.NONE; i++) {
            for (int field = 0; field <= 7; field++) {
                text.append(' ').append(x.held(c, i, field));
            }
        }
        return text.toString();
    }

    // An exchange that isn't declared refuses to publish; otherwise the one declaration that is DONE is what it is.
    private static String declarationOfExchange(QueueBroker x, int e) {
        StringBuilder text = new StringBuilder("exchange: ").append(x.publish(0, e, 0x7, 1, 2));
        for (int type = 0; type <= 2; type++) {
            text.append(' ').append(x.exchange(e, type, false)).append(' ').append(x.exchange(e, type, true));
        }
        return text.toString();
    }

    private static String declarationOfQueue(QueueBroker x, int q) {
        StringBuilder text = new StringBuilder("queue: ").append(x.consume(0, q, true));
        for (int limit = 1; limit <= 12; limit++) {
            for (int dead = -1; dead <= 4; dead++) {
                text.append(' ').append(x.queue(q, limit, dead, false)).append(' ').append(x.queue(q, limit, dead, true));
            }
        }
        return text.toString();
    }

    private static String bindings(QueueBroker x, int e) {
        StringBuilder text = new StringBuilder("unbind:");
        for (int q = 0; q < 6; q++) {
            for (int pattern : PATTERNS) {
                text.append(' ').append(x.unbind(e, q, pattern));
            }
        }
        return text.append(" left ").append(x.count(4, e)).toString();
    }

    private static String roomForBindings(QueueBroker x) {
        StringBuilder text = new StringBuilder("bind:");
        for (int n = 0; n < 26; n++) {
            text.append(' ').append(x.bind(0, 0, n < 13 ? 0xa1 + n : 0xb1 + n - 13));
        }
        return text.toString();
    }

    private static String drops(QueueBroker x) {
        StringBuilder text = new StringBuilder("drop:");
        for (int q = 0; q < 6; q++) {
            text.append(' ').append(x.drop(q));
        }
        return text.append(state(x)).toString();
    }

    private static String rows(QueueBroker x) {
        StringBuilder text = new StringBuilder("rows:");
        for (int q = 0; q < 6; q++) {
            for (int c = 0; c < 4; c++) {
                text.append(' ').append(x.cancel(c, q)).append(' ').append(x.consume(c, q, false));
            }
        }
        return text.append(state(x)).toString();
    }

    private static String publishing(QueueBroker x) {
        StringBuilder text = new StringBuilder("publish:");
        for (int c = 0; c < 4; c++) {
            for (int e = 0; e < 5; e++) {
                text.append(' ').append(x.publish(c, e, 0x12, 60 + c, 2));
                text.append(' ').append(x.publish(c, e, 0x1, 70 + c, 0));
            }
        }
        return text.append(state(x)).toString();
    }

    private static String deliveries(QueueBroker x) {
        StringBuilder text = new StringBuilder("deliver:");
        for (int q = 0; q < 6; q++) {
            for (int n = 0; n < 9; n++) {
                text.append(' ').append(x.deliver(q));
            }
        }
        return text.append(state(x)).toString();
    }

    // Rows show their order only where there are copies and room for them.
    private static String deliveriesOfMore(QueueBroker x) {
        for (int c = 0; c < 4; c++) {
            x.prefetch(c, 12);
        }
        for (int c = 0; c < 4; c++) {
            feedAll(x, c, 3);
        }
        return deliveries(x);
    }

    private static String prefetch(QueueBroker x, int c) {
        for (int other = 0; other < 4; other++) {
            if (other != c) {
                x.close(other);
            }
        }
        feedAll(x, (c + 1) % 4, 12);
        int taken = 0;
        for (int q = 0; q < 6; q++) {
            x.consume(c, q, false);
            for (int n = 0; n < 13; n++) {
                taken += x.deliver(q) == c ? 1 : 0;
            }
        }
        return "prefetch: " + taken + tags(x);
    }

    private static void feedAll(QueueBroker x, int publisher, int copies) {
        x.exchange(4, 1, true);
        for (int q = 0; q < 6; q++) {
            x.bind(4, q, 0);
        }
        for (int n = 0; n < copies; n++) {
            x.publish(publisher, 4, 0, 80 + n, 0);
        }
    }
}
