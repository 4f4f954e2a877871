import java.util.Random;

/** Runs of calls chosen at random, each with a fixed seed, compared call by call with the model. */
public final class RandomRunsTest {
    private static final int RUNS = 12000;
    private static final int CALLS = 512;

    private final Random random;
    private final boolean wild;
    private final int[] weights;
    private final QueueBroker x = new QueueBroker();
    private final Model y = new Model();
    private String call = "";
    private long got = 0;
    private long want = 0;

    private RandomRunsTest(int seed) {
        random = new Random(seed);
        wild = seed % 3 == 0;
        // Every run leans to some calls, so that full queues, full channels and long transactions come up.
        weights = new int[19];
        int[] usual = {3, 6, 10, 1, 1, 30, 6, 1, 30, 12, 2, 2, 3, 1, 1, 1, 0, 0, 0};
        for (int i = 0; i < usual.length; i++) {
            weights[i] = usual[i] * (1 + random.nextInt(6));
        }
        weights[15] = seed % 2;
        weights[16] = 2;
        weights[17] = 2;
        weights[18] = 2;
    }

    public static void main(String[] args) {
        Check check = new Check();
        for (int seed = 1; seed <= RUNS; seed++) {
            new RandomRunsTest(seed).run(check, seed);
        }
        check.end();
    }

    private void run(Check check, int seed) {
        // Runs end after few or many calls; what is left of the 512 is used to look at the state.
        int length = 20 + seed * 37 % (CALLS - 130);
        for (int n = 1; n <= length; n++) {
            next();
            check.due("run " + seed + ", call " + n + ": " + call, got, want);
            if (got != want) {
                return;
            }
        }
        compareState(check, "run " + seed + ", after call " + length + " " + call, CALLS - length);
    }

    private void compareState(Check check, String when, int left) {
        int[] counts = {6, 6, 4, 4, 5, 1, 1, 4};
        for (int what = 0; what < counts.length; what++) {
            for (int i = 0; i < counts[what]; i++) {
                left--;
                check.due(when + ": count(" + what + ", " + i + ")", x.count(what, i), y.count(what, i));
            }
        }
        // Fields outermost: if the calls don't do for all, each copy has at least been looked at once.
        for (int field = 0; field <= 7; field++) {
            for (int n = 0; n < 10; n++) {
                int copies = n < 6 ? y.count(0, n) : y.count(2, n - 6);
                for (int i = 0; i <= copies && left > 0; i++) {
                    left--;
                    compareField(check, when, n, i, field);
                }
            }
        }
    }

    private void compareField(Check check, String when, int n, int i, int field) {
        if (n < 6) {
            check.due(when + ": ready(" + n + ", " + i + ", " + field + ")", x.ready(n, i, field), y.ready(n, i, field));
        } else {
            check.due(when + ": held(" + (n - 6) + ", " + i + ", " + field + ")", x.held(n - 6, i, field),
                    y.held(n - 6, i, field));
        }
    }

    private int upTo(int least, int most) {
        if (wild && random.nextInt(40) == 0) {
            int[] odd = {least - 1, most + 1, Integer.MIN_VALUE, Integer.MAX_VALUE};
            return odd[random.nextInt(odd.length)];
        }
        return least + random.nextInt(most - least + 1);
    }

    private int pattern(int highest) {
        if (wild && random.nextInt(40) == 0) {
            return random.nextInt();
        }
        int length = random.nextInt(10) == 0 ? random.nextInt(9) : random.nextInt(4);
        int pattern = 0;
        for (int i = 0; i < length; i++) {
            int item = 1 + random.nextInt(random.nextInt(8) == 0 ? 13 : 3);
            pattern = pattern * 16 + (random.nextInt(2) == 0 && highest > 13 ? 14 + random.nextInt(2) : item);
        }
        return pattern;
    }

    private void answer(String text, long of, long due) {
        call = text;
        got = of;
        want = due;
    }

    private void next() {
        int sum = 0;
        for (int weight : weights) {
            sum += weight;
        }
        int at = random.nextInt(sum);
        int kind = 0;
        while (at >= weights[kind]) {
            at -= weights[kind];
            kind++;
        }
        if (kind < 6) {
            declareOrPublish(kind);
        } else if (kind < 12) {
            consumeOrSettle(kind);
        } else {
            channelOrGetter(kind);
        }
    }

    private void declareOrPublish(int kind) {
        int e = upTo(0, 4);
        int q = upTo(0, 5);
        boolean durable = random.nextInt(3) != 0;
        switch (kind) {
            case 0 -> {
                int type = upTo(0, 2);
                answer("exchange(" + e + ", " + type + ", " + durable + ")", x.exchange(e, type, durable),
                        y.exchange(e, type, durable));
            }
            case 1 -> {
                int limit = random.nextInt(2) == 0 ? upTo(1, 3) : upTo(1, 12);
                int dead = upTo(-1, 4);
                answer("queue(" + q + ", " + limit + ", " + dead + ", " + durable + ")",
                        x.queue(q, limit, dead, durable), y.queue(q, limit, dead, durable));
            }
            case 2 -> {
                int pattern = pattern(15);
                answer("bind(" + e + ", " + q + ", " + pattern + ")", x.bind(e, q, pattern), y.bind(e, q, pattern));
            }
            case 3 -> {
                int pattern = pattern(15);
                answer("unbind(" + e + ", " + q + ", " + pattern + ")", x.unbind(e, q, pattern),
                        y.unbind(e, q, pattern));
            }
            case 4 -> {
                // Dropped seldom, or no queue would ever fill.
                int number = random.nextInt(4) == 0 ? q : -1;
                answer("drop(" + number + ")", x.drop(number), y.drop(number));
            }
            default -> {
                int c = upTo(0, 3);
                int key = pattern(13);
                int body = random.nextInt(1000) - 500;
                int flags = upTo(0, 3);
                answer("publish(" + c + ", " + e + ", " + key + ", " + body + ", " + flags + ")",
                        x.publish(c, e, key, body, flags), y.publish(c, e, key, body, flags));
            }
        }
    }

    private void consumeOrSettle(int kind) {
        int c = upTo(0, 3);
        int q = upTo(0, 5);
        switch (kind) {
            case 6 -> {
                boolean automatic = random.nextInt(5) == 0;
                answer("consume(" + c + ", " + q + ", " + automatic + ")", x.consume(c, q, automatic),
                        y.consume(c, q, automatic));
            }
            case 7 -> answer("cancel(" + c + ", " + q + ")", x.cancel(c, q), y.cancel(c, q));
            case 8 -> answer("deliver(" + q + ")", x.deliver(q), y.deliver(q));
            case 9 -> {
                int tag = heldTag(c);
                boolean whole = random.nextInt(3) == 0;
                int how = upTo(0, 2);
                answer("settle(" + c + ", " + tag + ", " + whole + ", " + how + ")", x.settle(c, tag, whole, how),
                        y.settle(c, tag, whole, how));
            }
            case 10 -> {
                int n = upTo(1, 12);
                answer("prefetch(" + c + ", " + n + ")", x.prefetch(c, n), y.prefetch(c, n));
            }
            default -> answer("begin(" + c + ")", x.begin(c), y.begin(c));
        }
    }

    private int heldTag(int c) {
        int size = y.count(2, c);
        if (size <= 0 || random.nextInt(6) == 0) {
            return upTo(0, 20);
        }
        return (int) y.held(c, random.nextInt(size), 5);
    }

    private void channelOrGetter(int kind) {
        int c = upTo(0, 3);
        int i = upTo(0, 5);
        switch (kind) {
            case 12 -> answer("commit(" + c + ")", x.commit(c), y.commit(c));
            case 13 -> answer("rollback(" + c + ")", x.rollback(c), y.rollback(c));
            case 14 -> answer("close(" + c + ")", x.close(c), y.close(c));
            case 15 -> {
                if (random.nextInt(3) != 0) {
                    answer("close(" + c + ")", x.close(c), y.close(c));
                    return;
                }
                answer("crash()", x.crash(), y.crash());
            }
            case 16 -> {
                int q = upTo(0, 5);
                int field = upTo(0, 4);
                answer("ready(" + q + ", " + i + ", " + field + ")", x.ready(q, i, field), y.ready(q, i, field));
            }
            case 17 -> {
                int field = upTo(0, 7);
                answer("held(" + c + ", " + i + ", " + field + ")", x.held(c, i, field), y.held(c, i, field));
            }
            default -> {
                int what = upTo(0, 7);
                answer("count(" + what + ", " + i + ")", x.count(what, i), y.count(what, i));
            }
        }
    }
}
