import java.io.IOException;
import java.lang.reflect.Field;
import java.lang.reflect.Method;
import java.lang.reflect.Modifier;
import java.nio.file.Files;
import java.nio.file.Path;

/** README.md shows an example whose answers are right, and names every call and every constant with its value. */
public final class ReadmeTest {
    private static String readme;
    private static final Check CHECK = new Check();

    public static void main(String[] args) throws IOException, IllegalAccessException {
        readme = Files.readString(Path.of("README.md"));
        example();
        calls();
        constants();
        CHECK.due("512 calls are told", readme.contains("at most 512 calls") ? 1 : 0, 1);
        CHECK.end();
    }

    private static void example() {
        QueueBroker broker = new QueueBroker();
        shown("exchange(0, 2, true)", broker.exchange(0, 2, true));
        shown("queue(0, 3, -1, true)", broker.queue(0, 3, -1, true));
        shown("bind(0, 0, 0x1F)", broker.bind(0, 0, 0x1F));
        shown("publish(0, 0, 0x12, 7, 1)", broker.publish(0, 0, 0x12, 7, 1));
        shown("consume(1, 0, false)", broker.consume(1, 0, false));
        shown("deliver(0)", broker.deliver(0));
        shown("held(1, 0, 5)", broker.held(1, 0, 5));
        shown("settle(1, 1, false, 0)", broker.settle(1, 1, false, 0));
    }

    private static void shown(String call, long answer) {
        int at = readme.indexOf("broker." + call + ";");
        String line = at < 0 ? "" : readme.substring(at, readme.indexOf('\n', at));
        CHECK.due(call + " as the readme shows it: " + line, line.contains("// " + answer + ": ") ? 1 : 0, 1);
    }

    private static void calls() {
        for (Method method : QueueBroker.class.getMethods()) {
            if (method.getDeclaringClass() == QueueBroker.class) {
                CHECK.due(method.getName(), readme.contains("\n| `" + method.getName() + "(") ? 1 : 0, 1);
            }
        }
    }

    private static void constants() throws IllegalAccessException {
        for (Field field : QueueBroker.class.getFields()) {
            if (Modifier.isStatic(field.getModifiers())) {
                String row = "\n| `" + field.getName() + "` | " + field.get(null) + " |";
                CHECK.due(row, readme.contains(row) ? 1 : 0, 1);
            }
        }
    }
}
