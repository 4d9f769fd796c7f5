import com.sun.source.tree.ArrayAccessTree;
import com.sun.source.tree.AssertTree;
import com.sun.source.tree.BinaryTree;
import com.sun.source.tree.BlockTree;
import com.sun.source.tree.ClassTree;
import com.sun.source.tree.CompilationUnitTree;
import com.sun.source.tree.DoWhileLoopTree;
import com.sun.source.tree.IdentifierTree;
import com.sun.source.tree.ImportTree;
import com.sun.source.tree.LambdaExpressionTree;
import com.sun.source.tree.LiteralTree;
import com.sun.source.tree.MemberReferenceTree;
import com.sun.source.tree.MemberSelectTree;
import com.sun.source.tree.MethodInvocationTree;
import com.sun.source.tree.MethodTree;
import com.sun.source.tree.NewArrayTree;
import com.sun.source.tree.NewClassTree;
import com.sun.source.tree.SynchronizedTree;
import com.sun.source.tree.ThrowTree;
import com.sun.source.tree.Tree;
import com.sun.source.tree.TryTree;
import com.sun.source.tree.TypeCastTree;
import com.sun.source.tree.VariableTree;
import com.sun.source.tree.WhileLoopTree;
import com.sun.source.util.JavacTask;
import com.sun.source.util.SourcePositions;
import com.sun.source.util.TreeScanner;
import com.sun.source.util.Trees;
import java.io.IOException;
import java.lang.reflect.Method;
import java.lang.reflect.Modifier;
import java.nio.file.Path;
import java.util.ArrayList;
import java.util.HashMap;
import java.util.HashSet;
import java.util.List;
import java.util.Map;
import java.util.Set;
import java.util.TreeSet;
import javax.lang.model.element.Name;
import javax.tools.JavaCompiler;
import javax.tools.StandardJavaFileManager;
import javax.tools.ToolProvider;

/** What of ../shared/LANGUAGE.md can be seen in the source of the program; some rules are taken more narrowly. */
public final class LanguageRules extends TreeScanner<Void, Void> {
    private static final Path SOURCE = Path.of("src/main/java/HatGoesRound.java");
    private static final String FACE = "again(int) bar() concert() count(int) encore() fault() give(int) "
        + "hear(int,int,int) hush(int,int) judge(int,long) keep(int) later(int,int) loud(int,int) nights(int) pay(int) "
        + "pays(int) player(int,int) rest(int) rests(int) score(int,int) seed(long) share(int,boolean) stops() "
        + "strings(int,int,boolean) undo() unhear() wipe() write(int)";
    /** The places that look at an index, or at a divisor, before they use it. */
    private static final Set<String> MAY_INDEX = Set.of("at", "put", "momentAt", "<init>");
    private static final Set<String> MAY_DIVIDE = Set.of("fraction", "judge");
    private static final Set<String> LIBRARY = Set.of("bitCount", "compare", "abs", "min", "max");

    private final CompilationUnitTree unit;
    private final SourcePositions positions;
    private final Map<String, Set<String>> calls = new HashMap<>();
    private int classes;
    private int depthOfClasses;
    private String method = "";
    private int broken;

    private LanguageRules(CompilationUnitTree unit, SourcePositions positions) {
        this.unit = unit;
        this.positions = positions;
    }

    public static void main(String[] args) throws IOException {
        JavaCompiler compiler = ToolProvider.getSystemJavaCompiler();
        try (StandardJavaFileManager files = compiler.getStandardFileManager(null, null, null)) {
            JavacTask task = (JavacTask) compiler.getTask(null, files, null, List.of("-proc:none"), null,
                files.getJavaFileObjects(SOURCE));
            CompilationUnitTree unit = task.parse().iterator().next();
            LanguageRules rules = new LanguageRules(unit, Trees.instance(task).getSourcePositions());
            rules.scan(unit, null);
            rules.face();
            rules.depths();
            System.out.println("LanguageRules: " + rules.classes + " classes, " + rules.calls.size() + " methods, "
                + rules.broken + " faults");
            if (rules.broken != 0) {
                System.exit(1);
            }
        }
    }

    private void fault(String what) {
        broken++;
        System.out.println("LanguageRules: " + what + (method.isEmpty() ? "" : " in " + method));
    }

    private void face() {
        TreeSet<String> names = new TreeSet<>();
        Set<String> bare = new HashSet<>();
        for (Method m : HatGoesRound.class.getDeclaredMethods()) {
            if (!Modifier.isPrivate(m.getModifiers())) {
                List<String> types = new ArrayList<>();
                for (Class<?> type : m.getParameterTypes()) {
                    types.add(type.getName());
                }
                names.add(m.getName() + "(" + String.join(",", types) + ")");
                bare.add(m.getName());
                Class<?> due = m.getName().equals("seed") ? long.class : int.class;
                if (m.getReturnType() != due || !Modifier.isPublic(m.getModifiers())) {
                    fault("rule 1: " + m);
                }
            }
        }
        if (!String.join(" ", names).equals(FACE)) {
            fault("rule 1: the face is " + names);
        }
        for (Class<?> own : HatGoesRound.class.getDeclaredClasses()) {
            for (Method m : own.getDeclaredMethods()) {
                if (bare.contains(m.getName())) {
                    fault("rule 1: a class inside has a method " + m.getName());
                }
            }
        }
        long seen = java.util.Arrays.stream(HatGoesRound.class.getDeclaredFields())
            .filter(f -> !Modifier.isPrivate(f.getModifiers())).count();
        if (seen != 5) {
            fault("rule 1: " + seen + " fields can be seen");
        }
    }

    private int depth(String name, Set<String> open) {
        if (!open.add(name)) {
            fault("rule 8: " + name + " calls itself");
            return 0;
        }
        int most = 0;
        for (String called : calls.getOrDefault(name, Set.of())) {
            if (calls.containsKey(called)) {
                most = Math.max(most, depth(called, open));
            } else if (!LIBRARY.contains(called)) {
                fault("rule 4: " + name + " calls " + called);
            }
        }
        open.remove(name);
        return 1 + most;
    }

    private void depths() {
        method = "";
        for (String name : calls.keySet()) {
            int depth = depth(name, new HashSet<>());
            if (depth > 8) {
                fault("rule 11: " + depth + " calls deep from " + name);
            }
        }
    }

    private boolean isConstant(Tree tree) {
        String text = tree.toString();
        return tree instanceof LiteralTree || tree instanceof IdentifierTree && text.equals(text.toUpperCase());
    }

    @Override
    public Void visitImport(ImportTree tree, Void none) {
        fault("rule 4: " + tree);
        return super.visitImport(tree, none);
    }

    @Override
    public Void visitClass(ClassTree tree, Void none) {
        classes++;
        depthOfClasses++;
        int fields = 0;
        for (Tree member : tree.getMembers()) {
            if (member instanceof VariableTree field) {
                boolean isStatic = field.getModifiers().getFlags().contains(javax.lang.model.element.Modifier.STATIC);
                boolean isFinal = field.getModifiers().getFlags().contains(javax.lang.model.element.Modifier.FINAL);
                fields += isStatic ? 0 : 1;
                if (isStatic && !isFinal) {
                    fault("rule 5: " + field.getName());
                }
            }
            if (member instanceof BlockTree) {
                fault("rule 5: an initialiser block");
            }
        }
        boolean inside = depthOfClasses > 1;
        if (inside && !tree.getModifiers().getFlags().contains(javax.lang.model.element.Modifier.STATIC)) {
            fault("rule 2: " + tree.getSimpleName());
        }
        if (fields > 20 || classes > 12 || !method.isEmpty()) {
            fault("rules 2, 11: " + tree.getSimpleName() + " with " + fields + " fields");
        }
        super.visitClass(tree, none);
        depthOfClasses--;
        return null;
    }

    @Override
    public Void visitMethod(MethodTree tree, Void none) {
        method = tree.getName().toString();
        calls.computeIfAbsent(method, k -> new HashSet<>());
        long first = unit.getLineMap().getLineNumber(positions.getStartPosition(unit, tree));
        long last = unit.getLineMap().getLineNumber(positions.getEndPosition(unit, tree));
        if (last - first >= 60 || tree.getParameters().size() > 7) {
            fault("rule 11: " + (last - first + 1) + " lines, " + tree.getParameters().size() + " parameters");
        }
        super.visitMethod(tree, none);
        method = "";
        return null;
    }

    @Override
    public Void visitMethodInvocation(MethodInvocationTree tree, Void none) {
        Tree select = tree.getMethodSelect();
        Name name = select instanceof MemberSelectTree m ? m.getIdentifier() : ((IdentifierTree) select).getName();
        if (!method.equals("<init>") || !name.contentEquals("super")) {
            calls.computeIfAbsent(method, k -> new HashSet<>()).add(name.toString());
        }
        return super.visitMethodInvocation(tree, none);
    }

    @Override
    public Void visitArrayAccess(ArrayAccessTree tree, Void none) {
        if (!MAY_INDEX.contains(method)) {
            fault("rule 7: " + tree);
        }
        return super.visitArrayAccess(tree, none);
    }

    @Override
    public Void visitBinary(BinaryTree tree, Void none) {
        boolean divides = tree.getKind() == Tree.Kind.DIVIDE || tree.getKind() == Tree.Kind.REMAINDER;
        if (divides && !isConstant(tree.getRightOperand()) && !MAY_DIVIDE.contains(method)) {
            fault("rule 7: " + tree);
        }
        return super.visitBinary(tree, none);
    }

    @Override
    public Void visitLiteral(LiteralTree tree, Void none) {
        if (tree.getValue() instanceof String) {
            fault("no text is needed: " + tree);
        }
        return super.visitLiteral(tree, none);
    }

    @Override
    public Void visitTypeCast(TypeCastTree tree, Void none) {
        if (!tree.getType().toString().equals("int")) {
            fault("rule 6: " + tree);
        }
        return super.visitTypeCast(tree, none);
    }

    @Override
    public Void visitNewClass(NewClassTree tree, Void none) {
        if (tree.getClassBody() != null || !(method.isEmpty() || method.equals("<init>"))) {
            fault("rules 2, 12: " + tree);
        }
        return super.visitNewClass(tree, none);
    }

    @Override
    public Void visitNewArray(NewArrayTree tree, Void none) {
        if (!(method.isEmpty() || method.equals("<init>")) || !tree.getDimensions().stream().allMatch(this::isConstant)) {
            fault("rules 7, 12: " + tree);
        }
        return super.visitNewArray(tree, none);
    }

    @Override
    public Void visitThrow(ThrowTree tree, Void none) {
        fault("rule 6: " + tree);
        return super.visitThrow(tree, none);
    }

    @Override
    public Void visitTry(TryTree tree, Void none) {
        fault("rule 6: " + tree);
        return super.visitTry(tree, none);
    }

    @Override
    public Void visitSynchronized(SynchronizedTree tree, Void none) {
        fault("rule 6: " + tree);
        return super.visitSynchronized(tree, none);
    }

    @Override
    public Void visitAssert(AssertTree tree, Void none) {
        fault("rule 6: " + tree);
        return super.visitAssert(tree, none);
    }

    @Override
    public Void visitLambdaExpression(LambdaExpressionTree tree, Void none) {
        fault("rule 2: " + tree);
        return super.visitLambdaExpression(tree, none);
    }

    @Override
    public Void visitMemberReference(MemberReferenceTree tree, Void none) {
        fault("rule 2: " + tree);
        return super.visitMemberReference(tree, none);
    }

    @Override
    public Void visitWhileLoop(WhileLoopTree tree, Void none) {
        fault("rule 9: a loop that counts nothing");
        return super.visitWhileLoop(tree, none);
    }

    @Override
    public Void visitDoWhileLoop(DoWhileLoopTree tree, Void none) {
        fault("rule 9: a loop that counts nothing");
        return super.visitDoWhileLoop(tree, none);
    }
}
