import com.sun.source.tree.ClassTree;
import com.sun.source.tree.CompilationUnitTree;
import com.sun.source.tree.IdentifierTree;
import com.sun.source.tree.ImportTree;
import com.sun.source.tree.LineMap;
import com.sun.source.tree.MemberSelectTree;
import com.sun.source.tree.MethodInvocationTree;
import com.sun.source.tree.MethodTree;
import com.sun.source.tree.NewClassTree;
import com.sun.source.tree.Tree;
import com.sun.source.tree.Tree.Kind;
import com.sun.source.tree.VariableTree;
import com.sun.source.util.JavacTask;
import com.sun.source.util.SourcePositions;
import com.sun.source.util.TreeScanner;
import com.sun.source.util.Trees;
import java.io.File;
import java.io.IOException;
import java.util.EnumSet;
import java.util.HashSet;
import java.util.Map;
import java.util.Set;
import java.util.TreeMap;
import java.util.TreeSet;
import javax.tools.JavaCompiler;
import javax.tools.StandardJavaFileManager;
import javax.tools.ToolProvider;

/** The rules of ../shared/LANGUAGE.md that can be seen in the program's text; its path is the argument. */
public final class LanguageTest extends TreeScanner<Void, Void> {
    private static final Set<Kind> FORBIDDEN = EnumSet.of(Kind.THROW, Kind.TRY, Kind.CATCH, Kind.SYNCHRONIZED, Kind.ASSERT,
        Kind.LAMBDA_EXPRESSION, Kind.MEMBER_REFERENCE);
    private static final Set<String> FACE = Set.of("feed", "wipe", "type", "told", "key", "branch", "put", "take", "cut", "raise", "drift",
        "undo", "below", "stem", "beside", "closest", "off", "blind", "way", "unlike", "bit", "seed", "keep", "goBack");
    /** All that the program takes from outside now; what LANGUAGE.md allows beyond it may be added here when it is used. */
    private static final Set<String> LIBRARY = Set.of("Math.min", "Math.max", "System.arraycopy");

    private final Checks checks = new Checks();
    private final Map<String, Set<String>> calls = new TreeMap<>();
    private final LineMap lines;
    private final SourcePositions positions;
    private final CompilationUnitTree unit;
    private int classes;
    private String method = "";

    private LanguageTest(CompilationUnitTree unit, SourcePositions positions) {
        this.unit = unit;
        this.lines = unit.getLineMap();
        this.positions = positions;
    }

    public static void main(String[] args) throws IOException {
        File file = new File(args.length > 0 ? args[0] : "src/main/java/BitBranches.java");
        JavaCompiler compiler = ToolProvider.getSystemJavaCompiler();
        try (StandardJavaFileManager files = compiler.getStandardFileManager(null, null, null)) {
            JavacTask task = (JavacTask) compiler.getTask(null, files, null, null, null, files.getJavaFileObjects(file));
            CompilationUnitTree unit = task.parse().iterator().next();
            LanguageTest test = new LanguageTest(unit, Trees.instance(task).getSourcePositions());
            test.scan(unit, null);
            test.whole();
            test.checks.end();
        }
    }

    private long lineOf(Tree tree) {
        return lines.getLineNumber(positions.getStartPosition(unit, tree));
    }

    @Override
    public Void scan(Tree tree, Void v) {
        if (tree != null) {
            checks.holds("line " + lineOrNone(tree) + " has no " + tree.getKind(), !FORBIDDEN.contains(tree.getKind()));
        }
        return super.scan(tree, v);
    }

    private long lineOrNone(Tree tree) {
        return positions.getStartPosition(unit, tree) < 0 ? -1 : lineOf(tree);
    }

    @Override
    public Void visitImport(ImportTree tree, Void v) {
        String name = tree.getQualifiedIdentifier().toString();
        checks.holds("import of " + name, name.startsWith("java.util."));
        return super.visitImport(tree, v);
    }

    @Override
    public Void visitClass(ClassTree tree, Void v) {
        classes++;
        int fields = 0;
        for (Tree member : tree.getMembers()) {
            if (member instanceof VariableTree field && !field.getModifiers().getFlags().contains(javax.lang.model.element.Modifier.STATIC)) {
                fields++;
            }
        }
        checks.holds(tree.getSimpleName() + " has at most 20 fields, not " + fields, fields <= 20);
        return super.visitClass(tree, v);
    }

    @Override
    public Void visitMethod(MethodTree tree, Void v) {
        String name = tree.getName().toString();
        long length = lines.getLineNumber(positions.getEndPosition(unit, tree)) - lineOf(tree) + 1;
        checks.holds(name + " has at most 60 lines, not " + length, length <= 60);
        checks.holds(name + " takes at most seven", tree.getParameters().size() <= 7);
        boolean open = tree.getModifiers().getFlags().contains(javax.lang.model.element.Modifier.PUBLIC);
        checks.holds(name + " has no name of the face, if it is not of it", open || !FACE.contains(name));
        method = name;
        calls.computeIfAbsent(name, n -> new TreeSet<>());
        return super.visitMethod(tree, v);
    }

    @Override
    public Void visitNewClass(NewClassTree tree, Void v) {
        checks.holds("line " + lineOf(tree) + " makes no class without a name", tree.getClassBody() == null);
        return super.visitNewClass(tree, v);
    }

    @Override
    public Void visitMethodInvocation(MethodInvocationTree tree, Void v) {
        Tree select = tree.getMethodSelect();
        String whole = select.toString();
        if (!LIBRARY.contains(whole)) {
            String name = select instanceof MemberSelectTree member ? member.getIdentifier().toString() : ((IdentifierTree) select).getName().toString();
            calls.computeIfAbsent(method, n -> new TreeSet<>()).add(name);
        }
        return super.visitMethodInvocation(tree, v);
    }

    private void whole() {
        checks.holds("at most 12 classes, not " + classes, classes <= 12);
        for (Map.Entry<String, Set<String>> from : calls.entrySet()) {
            for (String name : from.getValue()) {
                checks.holds(from.getKey() + " calls the program's own " + name, name.equals("super") || calls.containsKey(name));
            }
        }
        for (String name : FACE) {
            int deep = deepest(name, new HashSet<>());
            checks.holds("calls from " + name + " go at most eight deep, without recursion, not " + deep, deep <= 8);
        }
    }

    private int deepest(String name, Set<String> open) {
        if (!open.add(name)) {
            return 1000;
        }
        int most = 0;
        for (String next : calls.getOrDefault(name, Set.of())) {
            most = Math.max(most, deepest(next, open));
        }
        open.remove(name);
        return most + 1;
    }
}
