/** Promise 18: ready. */
public final class P18ReadyTest {
    private static final long NONE = QueueBroker.NONE;

    public static void main(String[] args) {
        Check check = new Check();
        fields(check);
        nothingThere(check);
        check.end();
    }

    private static void fields(Check check) {
        QueueBroker x = Check.toAll(1, 12, 0);
        x.publish(0, 0, 0x87654321, Integer.MAX_VALUE, 1);
        x.publish(0, 0, 0, Integer.MIN_VALUE, 2);
        x.publish(0, 0, 0xd, 0, 3);
        long[][] due = {
            {Integer.MAX_VALUE, 0x87654321, 0, 0, 1}, {Integer.MIN_VALUE, 0, 0, 0, 0}, {0, 0xd, 0, 0, 1}};
        for (int i = 0; i < 3; i++) {
            for (int field = 0; field < 5; field++) {
                check.due("ready(0, " + i + ", " + field + ")", x.ready(0, i, field), due[i][field]);
            }
        }
        x.consume(0, 0, false);
        Check.deliver(x, 0, 2);
        x.settle(0, 1, false, 2);
        x.settle(0, 2, false, 1);
        long[][] then = {
            {Integer.MIN_VALUE, 0, 0, 1, 0}, {0, 0xd, 0, 0, 1}, {Integer.MAX_VALUE, 0x87654321, 1, 0, 1}};
        for (int i = 0; i < 3; i++) {
            for (int field = 0; field < 5; field++) {
                check.due("then ready(0, " + i + ", " + field + ")", x.ready(0, i, field), then[i][field]);
            }
        }
    }

    private static void nothingThere(Check check) {
        QueueBroker x = Check.toAll(2, 12, 0);
        Check.publish(x, 1, 2);
        int[] queues = {-1, 6, 2, 5, Integer.MIN_VALUE, Integer.MAX_VALUE};
        for (int q : queues) {
            check.due("queue " + q, x.ready(q, 0, 0), NONE);
        }
        int[] numbers = {-1, 2, 12, Integer.MIN_VALUE, Integer.MAX_VALUE};
        for (int i : numbers) {
            check.due("copy " + i, x.ready(0, i, 0), NONE);
        }
        int[] fields = {-1, 5, 6, 7, 8, Integer.MIN_VALUE, Integer.MAX_VALUE};
        for (int field : fields) {
            check.due("field " + field, x.ready(0, 0, field), NONE);
        }
        x.consume(0, 0, false);
        x.deliver(0);
        check.due("a held copy is not ready", x.ready(0, 1, 0), NONE);
        x.drop(1);
        check.due("a dropped queue", x.ready(1, 0, 0), NONE);
    }
}
