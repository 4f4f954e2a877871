import java.io.IOException;
import java.util.Map;
import java.util.Set;
import java.util.TreeMap;
import java.util.TreeSet;

/** The rules of LANGUAGE.md that can be read off the text of the program; where it needs less than they allow, less. */
public final class LanguageTest {
    private static final Set<String> KINDS_RULED_OUT = Set.of(
        "THROW", "TRY", "CATCH", "SYNCHRONIZED", "ASSERT", "LAMBDA_EXPRESSION", "MEMBER_REFERENCE", "TYPE_CAST",
        "ANNOTATION", "STRING_LITERAL", "DOUBLE_LITERAL", "FLOAT_LITERAL", "INSTANCE_OF", "DIVIDE", "REMAINDER",
        "DIVIDE_ASSIGNMENT", "REMAINDER_ASSIGNMENT");
    private static final Set<String> LIST_METHODS = Set.of("add", "get", "set", "remove", "size", "isEmpty", "clear");

    private static final Check CHECK = new Check();

    public static void main(String[] args) throws IOException {
        Source program = Source.of("src/main/java/QueueBroker.java");
        classes(program);
        kinds(program);
        library(program);
        statics(program);
        depth(program);
        loops(program);
        sizes(program);
        CHECK.end();
    }

    private static void none(String what, Set<String> found, Set<String> allowed) {
        Set<String> others = new TreeSet<>(found);
        others.removeAll(allowed);
        CHECK.same(what, others.toString(), "[]");
    }

    private static void atMost(String what, int most, Map<String, Integer> numbers) {
        for (Map.Entry<String, Integer> number : numbers.entrySet()) {
            CHECK.due(what + " of " + number.getKey(), Math.max(number.getValue(), most), most);
        }
    }

    private static void classes(Source program) {
        CHECK.sentence("Rule 1", "without a package line: one public class; the classes inside are private and static");
        CHECK.due("package lines", program.packages, 0);
        CHECK.due("classes beside each other", program.topClasses, 1);
        for (String nested : program.nestedClasses) {
            CHECK.same("modifiers of " + nested, nested.substring(0, nested.indexOf(']') + 1),
                "[private, static, final]");
        }
        CHECK.sentence("Rule 1", "No private method bears the name of a public one");
        Set<String> both = new TreeSet<>(program.publicMethods);
        both.retainAll(program.otherMethods);
        none("names of both", both, Set.of());
        CHECK.sentence("Rule 2", "no local or anonymous class");
        none("classes without a name", program.unnamedClasses, Set.of());
    }

    private static void kinds(Source program) {
        CHECK.sentence("Rules 2, 3, 6, 7, 10", "no throw, try, catch, synchronized, assert; no lambda ..");
        Set<String> found = new TreeSet<>(program.kinds);
        found.retainAll(KINDS_RULED_OUT);
        none("kinds of statements and expressions", found, Set.of());
    }

    private static void library(Source program) {
        CHECK.sentence("Rules 3, 4, 13", "The library: only what stands here");
        none("imports", program.imports, Set.of("java.util.ArrayList"));
        Set<String> own = new TreeSet<>(program.variables);
        own.addAll(program.fields.keySet());
        own.addAll(Set.of("ArrayList", "this", "super"));
        none("names that are not the program's own", program.names, own);
        for (Map.Entry<String, Set<String>> method : program.calls.entrySet()) {
            Set<String> strange = new TreeSet<>(method.getValue());
            strange.removeIf(call -> call.startsWith("new "));
            strange.removeAll(program.publicMethods);
            strange.removeAll(program.otherMethods);
            strange.remove("super");
            none("calls of " + method.getKey() + " into the library", strange, LIST_METHODS);
        }
    }

    private static void statics(Source program) {
        CHECK.sentence("Rule 5", "Static fields are final: constants of int, long ..; no static initialiser block");
        for (String field : program.statics) {
            CHECK.due(field, field.startsWith("final int ") || field.startsWith("final long ") ? 1 : 0, 1);
        }
        none("blocks of their own", program.initialisers, Set.of());
    }

    private static void depth(Source program) {
        CHECK.sentence("Rules 8, 11", "calls that are no recursion go at most eight deep");
        Map<String, Integer> depths = new TreeMap<>();
        for (String method : program.calls.keySet()) {
            depths.put(method, depthOf(method, program.calls, new TreeSet<>()));
        }
        atMost("calls open at once", 8, depths);
    }

    /** How many methods of the program stand open at most when this one is called; a thousand if it comes back to itself. */
    private static int depthOf(String method, Map<String, Set<String>> calls, Set<String> open) {
        if (!calls.containsKey(method)) {
            return 0;
        }
        if (!open.add(method)) {
            return 1000;
        }
        int below = 0;
        for (String next : calls.get(method)) {
            below = Math.max(below, depthOf(next, calls, open));
        }
        open.remove(method);
        return below + 1;
    }

    private static void loops(Source program) {
        CHECK.sentence("Rule 9", "Every loop has an end that can be seen from its own lines");
        none("for loops without a bound or a step", program.endlessLoops, Set.of());
        CHECK.sentence("Rule 12", "loops over a list by index");
        none("loops over a list by its iterator", program.loopsByIterator, Set.of());
    }

    private static void sizes(Source program) {
        CHECK.sentence("Rule 11", "at most seven parameters, some sixty lines, some twelve classes, some twenty fields");
        atMost("parameters", 7, program.parameters);
        atMost("lines", 60, program.lines);
        atMost("fields", 20, program.fields);
        CHECK.due("classes", Math.max(program.fields.size(), 12), 12);
    }
}
