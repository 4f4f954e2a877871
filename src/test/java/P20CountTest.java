/** Promise 20: count. */
public final class P20CountTest {
    private static final int WRONG = -1000;

    public static void main(String[] args) {
        Check check = new Check();
        counts(check);
        emptyOnes(check);
        wrongNumbers(check);
        check.end();
    }

    private static void counts(Check check) {
        QueueBroker x = Check.toAll(2, 3, -1);
        x.exchange(4, 0, true);
        x.bind(4, 1, 0x1);
        x.bind(4, 1, 0x2);
        x.bind(4, 0, 0x2);
        x.queue(5, 1, 4, true);
        x.bind(0, 5, 0);
        Check.publish(x, 1, 5);
        x.consume(3, 0, false);
        x.consume(1, 0, false);
        x.consume(1, 5, true);
        x.deliver(0);
        x.begin(2);
        x.publish(2, 0, 0, 1, 0);
        x.begin(0);
        int[][] due = {
            {2, 3, 0, 0, 0, 1}, {2, 0, 0, 0, 0, 1}, {0, 0, 0, 1}, {0, -1, 1, -1}, {3, 0, 0, 0, 3},
            {4, 4, 4, 4, 4, 4}, {4, 4, 4, 4, 4, 4}, {1, 3, -1, -1}};
        for (int what = 0; what < due.length; what++) {
            for (int i = 0; i < due[what].length; i++) {
                check.due("count(" + what + ", " + i + ")", x.count(what, i), due[what][i]);
            }
        }
        x.settle(3, 1, false, 2);
        check.due("lost letters", x.count(6, 0), 5);
        x.deliver(5);
        x.publish(1, 0, 0x1, 9, 0);
        check.due("automatic ones make no letters", x.count(5, 0), 4);
    }

    private static void emptyOnes(Check check) {
        QueueBroker x = new QueueBroker();
        int[] highest = {5, 5, 3, -1, 4};
        for (int what = 0; what < highest.length; what++) {
            for (int i = 0; i <= highest[what]; i++) {
                check.due("count(" + what + ", " + i + ")", x.count(what, i), 0);
            }
        }
        for (int i = 0; i < 4; i++) {
            check.due("count(3, " + i + ")", x.count(3, i), -1);
            check.due("count(7, " + i + ")", x.count(7, i), -1);
        }
        QueueBroker y = Check.toAll(2, 3, -1);
        y.consume(0, 1, false);
        check.due("only the row of queue 0", y.count(7, 0), -1);
    }

    private static void wrongNumbers(Check check) {
        QueueBroker x = Check.toAll(2, 1, 0);
        Check.publish(x, 1, 2);
        int[] below = {-1, Integer.MIN_VALUE};
        int[] highest = {5, 5, 3, 3, 4, 0, 0, 3};
        for (int what = 0; what < 8; what++) {
            if (what == 5 || what == 6) {
                continue;
            }
            for (int i : below) {
                check.due("count(" + what + ", " + i + ")", x.count(what, i), WRONG);
            }
            check.due("one too high for " + what, x.count(what, highest[what] + 1), WRONG);
            check.due("the highest for " + what, x.count(what, Integer.MAX_VALUE), WRONG);
        }
        int[] any = {-1, 0, 6, 1000, Integer.MIN_VALUE, Integer.MAX_VALUE};
        for (int i : any) {
            check.due("any number for 5", x.count(5, i), 3);
            check.due("any number for 6", x.count(6, i), x.count(6, 0));
        }
        int[] whats = {-1, 8, 9, Integer.MIN_VALUE, Integer.MAX_VALUE};
        for (int what : whats) {
            check.due("count(" + what + ", 0)", x.count(what, 0), WRONG);
        }
    }
}
