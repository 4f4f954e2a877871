/** Promise 19: held. */
public final class P19HeldTest {
    private static final long NONE = QueueBroker.NONE;

    public static void main(String[] args) {
        Check check = new Check();
        fields(check);
        nothingThere(check);
        check.end();
    }

    private static void fields(Check check) {
        QueueBroker x = Check.toAll(2, 12, 0);
        x.publish(0, 0, 0x87654321, Integer.MIN_VALUE, 1);
        x.publish(0, 0, 0x12, 8, 0);
        x.consume(3, 0, false);
        x.consume(3, 1, false);
        x.deliver(1);
        x.deliver(0);
        x.settle(3, 2, false, 1);
        x.deliver(0);
        x.deliver(0);
        x.settle(3, 4, false, 2);
        Check.deliver(x, 0, 1);
        x.begin(3);
        x.settle(3, 3, false, 0);
        long[][] due = {
            {Integer.MIN_VALUE, 0x87654321, 0, 0, 1, 1, 1, 0}, {Integer.MIN_VALUE, 0x87654321, 0, 1, 1, 3, 0, 1},
            {8, 0x12, 1, 0, 0, 5, 0, 0}};
        check.due("held copies", x.count(2, 3), 3);
        for (int i = 0; i < 3; i++) {
            for (int field = 0; field < 8; field++) {
                check.due("held(3, " + i + ", " + field + ")", x.held(3, i, field), due[i][field]);
            }
        }
    }

    private static void nothingThere(Check check) {
        QueueBroker x = Check.toAll(1, 12, 0);
        Check.publish(x, 1, 3);
        x.consume(0, 0, false);
        Check.deliver(x, 0, 2);
        int[] channels = {-1, 4, 1, 3, Integer.MIN_VALUE, Integer.MAX_VALUE};
        for (int c : channels) {
            check.due("channel " + c, x.held(c, 0, 0), NONE);
        }
        int[] numbers = {-1, 2, 12, Integer.MIN_VALUE, Integer.MAX_VALUE};
        for (int i : numbers) {
            check.due("copy " + i, x.held(0, i, 0), NONE);
            check.due("tag of copy " + i, x.held(0, i, 5), NONE);
        }
        int[] fields = {-1, 8, 9, Integer.MIN_VALUE, Integer.MAX_VALUE};
        for (int field : fields) {
            check.due("field " + field, x.held(0, 0, field), NONE);
        }
    }
}
