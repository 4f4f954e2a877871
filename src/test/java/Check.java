import java.util.function.IntSupplier;

/** Compares answers with those that are due, and tells the wrong ones. */
final class Check {
    private int sentences = 0;
    private int asked = 0;
    private int wrong = 0;
    private String sentence = "";

    /** What follows tests this sentence of the document; wrong answers are told together with it. */
    void sentence(String promise, String words) {
        sentences++;
        sentence = promise + ": \"" + words + "\": ";
    }

    void due(String call, long got, long want) {
        asked++;
        if (got != want) {
            wrong++;
            System.out.println(sentence + call + " answered " + got + ", due is " + want);
        }
    }

    void same(String call, String got, String want) {
        asked++;
        if (!got.equals(want)) {
            wrong++;
            System.out.println(sentence + call + ": " + got + ", due is " + want);
        }
    }

    /** The call must give this answer and leave all that the getters show as it was. */
    void leaves(QueueBroker x, String call, int want, IntSupplier made) {
        String before = shown(x);
        due(call, made.getAsInt(), want);
        String after = shown(x);
        if (!before.equals(after)) {
            wrong++;
            System.out.println(sentence + call + " changed " + before + " into " + after);
        }
    }

    /** The bodies of the ready copies of a queue must be these, in this order. */
    void bodies(String when, QueueBroker x, int q, long... want) {
        due(when + ": copies in queue " + q, x.count(0, q), want.length);
        for (int i = 0; i < want.length; i++) {
            due(when + ": body " + i + " of queue " + q, x.ready(q, i, 0), want[i]);
        }
    }

    /** The tags that a channel holds must be these, in this order. */
    void tags(String when, QueueBroker x, int channel, long... want) {
        due(when + ": copies of channel " + channel, x.count(2, channel), want.length);
        for (int i = 0; i < want.length; i++) {
            due(when + ": tag " + i + " of channel " + channel, x.held(channel, i, 5), want[i]);
        }
    }

    void letters(String when, QueueBroker x, long routed, long lost) {
        due(when + ": letters routed", x.count(5, 0), routed);
        due(when + ": letters lost", x.count(6, 0), lost);
    }

    /** An exchange 0 to all, with queues 0 .. n - 1 of this limit and dead exchange bound to it, all durable. */
    static QueueBroker toAll(int n, int limit, int dead) {
        QueueBroker x = new QueueBroker();
        x.exchange(0, 1, true);
        for (int q = 0; q < n; q++) {
            x.queue(q, limit, dead, true);
            x.bind(0, q, 0);
        }
        return x;
    }

    /** Publishes bodies from .. to by exchange 0, with the key 0x12. */
    static void publish(QueueBroker x, int from, int to) {
        for (int body = from; body <= to; body++) {
            x.publish(3, 0, 0x12, body, 0);
        }
    }

    static void deliver(QueueBroker x, int q, int times) {
        for (int i = 0; i < times; i++) {
            x.deliver(q);
        }
    }

    /** All that the getters show, by as few calls as can be. */
    static String shown(QueueBroker x) {
        int[] counts = {6, 6, 4, 4, 5, 1, 1, 4};
        StringBuilder text = new StringBuilder();
        for (int what = 0; what < counts.length; what++) {
            for (int i = 0; i < counts[what]; i++) {
                text.append(x.count(what, i)).append(' ');
            }
        }
        for (int q = 0; q < 6; q++) {
            text.append("| ");
            for (int i = 0; x.ready(q, i, 0) != QueueBroker.NONE; i++) {
                for (int field = 0; field <= 4; field++) {
                    text.append(x.ready(q, i, field)).append(' ');
                }
            }
        }
        for (int c = 0; c < 4; c++) {
            text.append("/ ");
            for (int i = 0; x.held(c, i, 0) != QueueBroker.NONE; i++) {
                for (int field = 0; field <= 7; field++) {
                    text.append(x.held(c, i, field)).append(' ');
                }
            }
        }
        return text.toString();
    }

    void end() {
        String of = sentences == 0 ? "" : sentences + " sentences, ";
        System.out.println(of + asked + " answers looked at, " + wrong + " wrong");
        if (wrong != 0 || asked == 0) {
            System.exit(1);
        }
    }
}
