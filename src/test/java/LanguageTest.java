import com.sun.source.tree.BinaryTree;
import com.sun.source.tree.ClassTree;
import com.sun.source.tree.CompilationUnitTree;
import com.sun.source.tree.IdentifierTree;
import com.sun.source.tree.MemberSelectTree;
import com.sun.source.tree.MethodTree;
import com.sun.source.tree.Tree;
import com.sun.source.tree.VariableTree;
import com.sun.source.util.JavacTask;
import com.sun.source.util.SourcePositions;
import com.sun.source.util.TreeScanner;
import com.sun.source.util.Trees;
import java.io.File;
import java.util.EnumSet;
import java.util.HashSet;
import java.util.List;
import java.util.Set;
import javax.lang.model.element.Modifier;
import javax.tools.JavaCompiler;
import javax.tools.StandardJavaFileManager;
import javax.tools.ToolProvider;

/** What of LANGUAGE.md can be read off the source: its form, its sizes, its library. */
public final class LanguageTest extends TreeScanner<Void, Void> {
    private static final String SOURCE = "src/main/java/MireWrestle.java";
    private static final Set<Tree.Kind> RULED_OUT = EnumSet.of(Tree.Kind.LAMBDA_EXPRESSION,
        Tree.Kind.MEMBER_REFERENCE, Tree.Kind.SYNCHRONIZED, Tree.Kind.ASSERT, Tree.Kind.TRY, Tree.Kind.THROW,
        Tree.Kind.IMPORT, Tree.Kind.PACKAGE, Tree.Kind.RECORD, Tree.Kind.WHILE_LOOP, Tree.Kind.DO_WHILE_LOOP,
        Tree.Kind.TYPE_CAST, Tree.Kind.STRING_LITERAL, Tree.Kind.SWITCH_EXPRESSION);
    private static final Set<String> LIBRARY = Set.of("System.arraycopy", "Math.min", "Math.max",
        "Integer.bitCount");

    private final CompilationUnitTree unit;
    private final SourcePositions positions;
    private final Set<String> open = new HashSet<>();
    private final Set<String> hidden = new HashSet<>();
    private int classes = 0;

    private LanguageTest(CompilationUnitTree unit, SourcePositions positions) {
        this.unit = unit;
        this.positions = positions;
    }

    public static void main(String[] args) throws Exception {
        JavaCompiler compiler = ToolProvider.getSystemJavaCompiler();
        StandardJavaFileManager files = compiler.getStandardFileManager(null, null, null);
        JavacTask task = (JavacTask) compiler.getTask(null, files, null, null, null,
            files.getJavaFileObjects(new File(SOURCE)));
        CompilationUnitTree unit = task.parse().iterator().next();
        LanguageTest test = new LanguageTest(unit, Trees.instance(task).getSourcePositions());
        test.scan(unit, null);
        test.names();
        Check.end(LanguageTest.class);
    }

    private void rule(String told, boolean isKept) {
        Check.due(told, isKept ? 1 : 0, 1);
    }

    private void names() {
        rule("rule 11: some twelve classes", classes <= 12);
        for (String name : hidden) {
            rule("rule 1: no private method bears a public name: " + name, !open.contains(name));
        }
    }

    @Override
    public Void scan(Tree tree, Void nothing) {
        if (tree != null) {
            rule("ruled out: " + tree.getKind() + " " + tree, !RULED_OUT.contains(tree.getKind()));
        }
        return super.scan(tree, nothing);
    }

    @Override
    public Void visitClass(ClassTree tree, Void nothing) {
        classes++;
        int fields = 0;
        for (Tree member : tree.getMembers()) {
            if (member instanceof VariableTree) {
                Set<Modifier> flags = ((VariableTree) member).getModifiers().getFlags();
                rule("rule 5: static fields are final: " + member,
                    !flags.contains(Modifier.STATIC) || flags.contains(Modifier.FINAL));
                fields += flags.contains(Modifier.STATIC) ? 0 : 1;
            }
            rule("rule 5: no initialiser block: " + member, member.getKind() != Tree.Kind.BLOCK);
        }
        rule("rule 11: some twenty fields: " + tree.getSimpleName(), fields <= 20);
        return super.visitClass(tree, nothing);
    }

    @Override
    public Void visitMethod(MethodTree tree, Void nothing) {
        String name = tree.getName().toString();
        boolean isOpen = tree.getModifiers().getFlags().contains(Modifier.PUBLIC);
        if (!name.equals("<init>")) {
            (isOpen ? open : hidden).add(name);
        }
        long lines = line(positions.getEndPosition(unit, tree)) - line(positions.getStartPosition(unit, tree)) + 1;
        rule("rule 11: short methods: " + name + " has " + lines + " lines", lines <= 60);
        rule("rule 11: seven parameters: " + name, tree.getParameters().size() <= 7);
        return super.visitMethod(tree, nothing);
    }

    private long line(long position) {
        return unit.getLineMap().getLineNumber(position);
    }

    @Override
    public Void visitMemberSelect(MemberSelectTree tree, Void nothing) {
        String owner = tree.getExpression().toString();
        if (tree.getExpression() instanceof IdentifierTree
                && List.of("System", "Math", "Integer", "Long", "Arrays", "Character").contains(owner)) {
            rule("rule 4: " + tree, LIBRARY.contains(tree.toString()));
        }
        rule("rule 4: no full names: " + tree, !owner.startsWith("java"));
        return super.visitMemberSelect(tree, nothing);
    }

    /** Rule 7: what divides must be a constant here, or the counter of choose(), which begins at 1. */
    @Override
    public Void visitBinary(BinaryTree tree, Void nothing) {
        if (tree.getKind() == Tree.Kind.DIVIDE || tree.getKind() == Tree.Kind.REMAINDER) {
            String divisor = tree.getRightOperand().toString();
            rule("rule 7: divisor of " + tree, divisor.matches("[1-9][0-9]*|Prices\\.BREATH|i"));
        }
        return super.visitBinary(tree, nothing);
    }
}
