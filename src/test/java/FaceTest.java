import java.lang.reflect.Field;
import java.lang.reflect.Method;
import java.lang.reflect.Modifier;
import java.util.Arrays;
import java.util.TreeSet;

/** The public face is the document's and nothing more; the classes inside are static and not public. */
public final class FaceTest {
    private static final String[] METHODS = {
        "int exchange(int, int, boolean)", "int queue(int, int, int, boolean)", "int bind(int, int, int)",
        "int unbind(int, int, int)", "int drop(int)", "int publish(int, int, int, int, int)",
        "int consume(int, int, boolean)", "int cancel(int, int)", "int deliver(int)",
        "int settle(int, int, boolean, int)", "int prefetch(int, int)", "int begin(int)", "int commit(int)",
        "int rollback(int)", "int close(int)", "int crash()", "long ready(int, int, int)",
        "long held(int, int, int)", "int count(int, int)"};
    private static final String[] CONSTANTS = {
        "int DONE", "int REFUSED", "int FULL", "int STATE", "int UNROUTED", "int EMPTY", "int BLOCKED", "int NOTED",
        "long NONE"};

    public static void main(String[] args) {
        Check check = new Check();
        check.due("class modifiers", QueueBroker.class.getModifiers(), Modifier.PUBLIC | Modifier.FINAL);
        check.due("constructors", QueueBroker.class.getDeclaredConstructors().length, 1);
        check.due("public constructors", QueueBroker.class.getConstructors().length, 1);
        methods(check);
        fields(check);
        for (Class<?> inside : QueueBroker.class.getDeclaredClasses()) {
            check.due(inside + " is static", Modifier.isStatic(inside.getModifiers()) ? 1 : 0, 1);
            check.due(inside + " is public", Modifier.isPublic(inside.getModifiers()) ? 1 : 0, 0);
        }
        check.end();
    }

    private static void methods(Check check) {
        TreeSet<String> shown = new TreeSet<>();
        TreeSet<String> publicNames = new TreeSet<>();
        TreeSet<String> privateNames = new TreeSet<>();
        for (Method method : QueueBroker.class.getDeclaredMethods()) {
            if (Modifier.isPrivate(method.getModifiers())) {
                privateNames.add(method.getName());
            } else {
                shown.add(Modifier.toString(method.getModifiers()).replace("public", "") + signature(method));
                publicNames.add(method.getName());
            }
        }
        check.due("methods " + shown, shown.equals(new TreeSet<>(Arrays.asList(METHODS))) ? 1 : 0, 1);
        privateNames.retainAll(publicNames);
        check.due("private methods with a public name " + privateNames, privateNames.size(), 0);
    }

    private static String signature(Method method) {
        StringBuilder text = new StringBuilder(method.getReturnType() + " " + method.getName() + "(");
        String gap = "";
        for (Class<?> type : method.getParameterTypes()) {
            text.append(gap).append(type);
            gap = ", ";
        }
        return text.append(")").toString();
    }

    private static void fields(Check check) {
        TreeSet<String> shown = new TreeSet<>();
        for (Field field : QueueBroker.class.getDeclaredFields()) {
            int modifiers = field.getModifiers();
            if (Modifier.isStatic(modifiers)) {
                check.due(field + " is final", Modifier.isFinal(modifiers) ? 1 : 0, 1);
            }
            if (!Modifier.isPrivate(modifiers)) {
                check.due(field + " is public", Modifier.isPublic(modifiers) ? 1 : 0, 1);
                check.due(field + " is static", Modifier.isStatic(modifiers) ? 1 : 0, 1);
                shown.add(field.getType() + " " + field.getName());
            }
        }
        check.due("constants " + shown, shown.equals(new TreeSet<>(Arrays.asList(CONSTANTS))) ? 1 : 0, 1);
    }
}
