import com.sun.source.tree.BlockTree;
import com.sun.source.tree.ClassTree;
import com.sun.source.tree.CompilationUnitTree;
import com.sun.source.tree.EnhancedForLoopTree;
import com.sun.source.tree.ExpressionTree;
import com.sun.source.tree.ForLoopTree;
import com.sun.source.tree.IdentifierTree;
import com.sun.source.tree.ImportTree;
import com.sun.source.tree.MemberSelectTree;
import com.sun.source.tree.MethodInvocationTree;
import com.sun.source.tree.MethodTree;
import com.sun.source.tree.NewClassTree;
import com.sun.source.tree.Tree;
import com.sun.source.tree.VariableTree;
import com.sun.source.util.JavacTask;
import com.sun.source.util.SourcePositions;
import com.sun.source.util.TreeScanner;
import com.sun.source.util.Trees;
import java.io.File;
import java.io.IOException;
import java.util.List;
import java.util.Map;
import java.util.Set;
import java.util.TreeMap;
import java.util.TreeSet;
import javax.lang.model.element.Modifier;
import javax.tools.JavaCompiler;
import javax.tools.StandardJavaFileManager;
import javax.tools.ToolProvider;

/** What stands in a Java file, gathered from the tree that the compiler makes of it. */
final class Source extends TreeScanner<Void, Void> {
    final Set<String> kinds = new TreeSet<>();
    final Set<String> imports = new TreeSet<>();
    final Set<String> nestedClasses = new TreeSet<>();
    final Set<String> unnamedClasses = new TreeSet<>();
    final Set<String> statics = new TreeSet<>();
    final Set<String> initialisers = new TreeSet<>();
    final Set<String> endlessLoops = new TreeSet<>();
    final Set<String> loopsByIterator = new TreeSet<>();
    final Set<String> publicMethods = new TreeSet<>();
    final Set<String> otherMethods = new TreeSet<>();
    final Set<String> variables = new TreeSet<>();
    final Set<String> names = new TreeSet<>();
    final Map<String, Integer> fields = new TreeMap<>();
    final Map<String, Integer> lines = new TreeMap<>();
    final Map<String, Integer> parameters = new TreeMap<>();
    // Methods are known by their names alone: two of the same name count as one, so no chain is counted too short.
    final Map<String, Set<String>> calls = new TreeMap<>();
    int topClasses = 0;
    int packages = 0;

    private final CompilationUnitTree unit;
    private final SourcePositions positions;
    private String inClass = "";
    private String inMethod = "";

    private Source(CompilationUnitTree unit, SourcePositions positions) {
        this.unit = unit;
        this.positions = positions;
    }

    static Source of(String path) throws IOException {
        JavaCompiler compiler = ToolProvider.getSystemJavaCompiler();
        StandardJavaFileManager files = compiler.getStandardFileManager(null, null, null);
        JavacTask task = (JavacTask) compiler.getTask(null, files, null, List.of("--release", "17"), null,
            files.getJavaFileObjects(new File(path)));
        CompilationUnitTree unit = task.parse().iterator().next();
        Source source = new Source(unit, Trees.instance(task).getSourcePositions());
        source.topClasses = unit.getTypeDecls().size();
        source.packages = unit.getPackageName() == null ? 0 : 1;
        source.scan(unit, null);
        return source;
    }

    private long lineAt(long position) {
        return unit.getLineMap().getLineNumber(position);
    }

    private String line(Tree tree) {
        return "line " + lineAt(positions.getStartPosition(unit, tree));
    }

    private void called(String method) {
        calls.computeIfAbsent(inMethod, any -> new TreeSet<>()).add(method);
    }

    @Override
    public Void scan(Tree tree, Void nothing) {
        if (tree != null) {
            kinds.add(tree.getKind().toString());
        }
        return super.scan(tree, nothing);
    }

    @Override
    public Void visitImport(ImportTree tree, Void nothing) {
        imports.add(tree.getQualifiedIdentifier().toString());
        return null;
    }

    @Override
    public Void visitClass(ClassTree tree, Void nothing) {
        String outer = inClass;
        inClass = tree.getSimpleName().toString();
        fields.put(inClass, 0);
        if (!outer.isEmpty()) {
            nestedClasses.add(tree.getModifiers().getFlags() + " " + inClass);
        }
        for (Tree member : tree.getMembers()) {
            if (member instanceof BlockTree) {
                initialisers.add(line(member));
            } else if (member instanceof VariableTree) {
                field((VariableTree) member);
            }
        }
        super.visitClass(tree, nothing);
        inClass = outer;
        return null;
    }

    private void field(VariableTree field) {
        Set<Modifier> flags = field.getModifiers().getFlags();
        if (flags.contains(Modifier.STATIC)) {
            String last = flags.contains(Modifier.FINAL) ? "final " : "";
            statics.add(last + field.getType() + " " + field.getName());
        } else {
            fields.merge(inClass, 1, Integer::sum);
        }
    }

    @Override
    public Void visitVariable(VariableTree tree, Void nothing) {
        variables.add(tree.getName().toString());
        return super.visitVariable(tree, nothing);
    }

    @Override
    public Void visitMethod(MethodTree tree, Void nothing) {
        boolean constructor = tree.getReturnType() == null;
        inMethod = constructor ? "new " + inClass : tree.getName().toString();
        calls.computeIfAbsent(inMethod, any -> new TreeSet<>());
        if (!constructor) {
            (tree.getModifiers().getFlags().contains(Modifier.PUBLIC) ? publicMethods : otherMethods).add(inMethod);
        }
        parameters.merge(inMethod, tree.getParameters().size(), Math::max);
        long first = lineAt(positions.getStartPosition(unit, tree));
        long last = lineAt(positions.getEndPosition(unit, tree));
        lines.merge(inMethod, (int) (last - first + 1), Math::max);
        super.visitMethod(tree, nothing);
        inMethod = "";
        return null;
    }

    @Override
    public Void visitMethodInvocation(MethodInvocationTree tree, Void nothing) {
        ExpressionTree method = tree.getMethodSelect();
        if (method instanceof MemberSelectTree) {
            called(((MemberSelectTree) method).getIdentifier().toString());
            scan(((MemberSelectTree) method).getExpression(), nothing);
        } else {
            called(method.toString());
        }
        scan(tree.getArguments(), nothing);
        return null;
    }

    @Override
    public Void visitNewClass(NewClassTree tree, Void nothing) {
        called("new " + tree.getIdentifier());
        if (tree.getClassBody() != null) {
            unnamedClasses.add(line(tree));
        }
        return super.visitNewClass(tree, nothing);
    }

    @Override
    public Void visitIdentifier(IdentifierTree tree, Void nothing) {
        names.add(tree.getName().toString());
        return null;
    }

    @Override
    public Void visitForLoop(ForLoopTree tree, Void nothing) {
        if (tree.getCondition() == null || tree.getUpdate().isEmpty()) {
            endlessLoops.add(line(tree));
        }
        return super.visitForLoop(tree, nothing);
    }

    @Override
    public Void visitEnhancedForLoop(EnhancedForLoopTree tree, Void nothing) {
        loopsByIterator.add(line(tree));
        return super.visitEnhancedForLoop(tree, nothing);
    }
}
