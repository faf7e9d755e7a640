import com.sun.source.tree.AnnotationTree;
import com.sun.source.tree.AssertTree;
import com.sun.source.tree.BinaryTree;
import com.sun.source.tree.ClassTree;
import com.sun.source.tree.CompilationUnitTree;
import com.sun.source.tree.LambdaExpressionTree;
import com.sun.source.tree.MemberReferenceTree;
import com.sun.source.tree.MethodInvocationTree;
import com.sun.source.tree.MethodTree;
import com.sun.source.tree.NewArrayTree;
import com.sun.source.tree.NewClassTree;
import com.sun.source.tree.SynchronizedTree;
import com.sun.source.tree.ThrowTree;
import com.sun.source.tree.Tree;
import com.sun.source.tree.TryTree;
import com.sun.source.tree.VariableTree;
import com.sun.source.util.JavacTask;
import com.sun.source.util.TreePathScanner;
import com.sun.source.util.Trees;
import java.io.File;
import java.util.ArrayList;
import java.util.HashMap;
import java.util.HashSet;
import java.util.LinkedHashMap;
import java.util.List;
import java.util.Map;
import java.util.Set;
import javax.lang.model.element.Element;
import javax.lang.model.element.Modifier;
import javax.tools.JavaCompiler;
import javax.tools.StandardJavaFileManager;
import javax.tools.ToolProvider;

/** The rules of LANGUAGE.md that can be seen in the source, asked of the compiler's own tree of it. */
public final class RulesTest extends TreePathScanner<Void, Void> {
    /** What is used of rule 4's library; more of it may be added here, if that page lists it. */
    private static final Set<String> LIBRARY = Set.of("Math.max(int,int)", "Math.min(int,int)", "Math.min(long,long)",
        "Integer.bitCount(int)", "String.indexOf(int)", "String.charAt(int)", "String.length()",
        "System.arraycopy(java.lang.Object,int,java.lang.Object,int,int)", "Arrays.fill(int[],int)", "Arrays.fill(byte[],byte)",
        "Object.Object()");

    private final Trees trees;
    private final CompilationUnitTree unit;
    private final Map<String, Set<String>> calls = new LinkedHashMap<>();
    private final Set<String> publicNames = new HashSet<>();
    private final List<String> otherNames = new ArrayList<>();
    private int classes = 0;

    private RulesTest(Trees trees, CompilationUnitTree unit) {
        this.trees = trees;
        this.unit = unit;
    }

    public static void main(String[] args) throws java.io.IOException {
        JavaCompiler compiler = ToolProvider.getSystemJavaCompiler();
        try (StandardJavaFileManager files = compiler.getStandardFileManager(null, null, null)) {
            JavacTask task = (JavacTask) compiler.getTask(null, files, null, List.of("-proc:none"), null,
                files.getJavaFileObjects(new File("src/main/java/TalkBridge.java")));
            CompilationUnitTree unit = task.parse().iterator().next();
            task.analyze();
            RulesTest rules = new RulesTest(Trees.instance(task), unit);
            rules.scan(unit, null);
            rules.judge();
        }
        Due.finish("RulesTest");
    }

    private void judge() {
        for (String name : otherNames) {
            Due.due("rule 1: " + name + " bears the name of a public one", publicNames.contains(name), false);
        }
        Due.due("rule 1: public methods", publicNames.size(), 50);
        Due.due("rule 11: at most twelve classes", classes <= 12, true);
        Map<String, Set<String>> reached = new HashMap<>();
        calls.keySet().forEach(m -> reached.put(m, reachedFrom(m)));
        for (String method : calls.keySet()) {
            int deep = depth(method, reached, new HashMap<>());
            Due.due("rule 11: calls of " + method + " go " + deep + " deep", deep <= 8, true);
        }
    }

    private Set<String> reachedFrom(String method) {
        Set<String> seen = new HashSet<>();
        List<String> open = new ArrayList<>(calls.get(method));
        while (!open.isEmpty()) {
            String next = open.remove(open.size() - 1);
            if (calls.containsKey(next) && seen.add(next)) {
                open.addAll(calls.get(next));
            }
        }
        return seen;
    }

    /** Methods that call one another count as one. */
    private int depth(String method, Map<String, Set<String>> reached, Map<String, Integer> known) {
        if (known.containsKey(method)) {
            return known.get(method);
        }
        Set<String> ring = new HashSet<>();
        for (String other : reached.get(method)) {
            if (reached.get(other).contains(method)) {
                ring.add(other);
            }
        }
        ring.add(method);
        int deepest = 0;
        for (String member : ring) {
            for (String next : calls.get(member)) {
                if (calls.containsKey(next) && !ring.contains(next)) {
                    deepest = Math.max(deepest, depth(next, reached, known));
                }
            }
        }
        known.put(method, deepest + 1);
        return deepest + 1;
    }

    private long line(long position) {
        return unit.getLineMap().getLineNumber(position);
    }

    private void no(String rule, Tree tree) {
        Due.due(rule + ", line " + line(trees.getSourcePositions().getStartPosition(unit, tree)), 1, 0);
    }

    private String enclosingMethod() {
        for (var path = getCurrentPath(); path != null; path = path.getParentPath()) {
            if (path.getLeaf() instanceof MethodTree) {
                return named(trees.getElement(path));
            }
        }
        return null;
    }

    private static String named(Element method) {
        return method.getEnclosingElement().getSimpleName() + "." + method;
    }

    @Override
    public Void visitClass(ClassTree tree, Void nothing) {
        classes++;
        int fields = 0;
        for (Tree member : tree.getMembers()) {
            if (member instanceof VariableTree field) {
                Set<Modifier> flags = field.getModifiers().getFlags();
                fields += flags.contains(Modifier.STATIC) ? 0 : 1;
                Due.due("rule 5: static " + field.getName() + " is final",
                    !flags.contains(Modifier.STATIC) || flags.contains(Modifier.FINAL), true);
            }
        }
        Due.due("rule 11: fields of " + tree.getSimpleName(), fields <= 20, true);
        boolean outer = tree.getSimpleName().contentEquals("TalkBridge");
        Set<Modifier> wanted = outer ? Set.of(Modifier.PUBLIC, Modifier.FINAL)
            : Set.of(Modifier.PRIVATE, Modifier.STATIC, Modifier.FINAL);
        Due.due("rules 1, 2: modifiers of " + tree.getSimpleName(), tree.getModifiers().getFlags().equals(wanted), true);
        return super.visitClass(tree, nothing);
    }

    @Override
    public Void visitVariable(VariableTree tree, Void nothing) {
        if (getCurrentPath().getParentPath().getLeaf() instanceof ClassTree holder
                && holder.getSimpleName().contentEquals("TalkBridge")) {
            Set<Modifier> flags = tree.getModifiers().getFlags();
            boolean isNone = tree.getName().contentEquals("NONE");
            Due.due("rule 1: field " + tree.getName(), flags.contains(isNone ? Modifier.PUBLIC : Modifier.PRIVATE), true);
        }
        return super.visitVariable(tree, nothing);
    }

    @Override
    public Void visitMethod(MethodTree tree, Void nothing) {
        Element element = trees.getElement(getCurrentPath());
        calls.putIfAbsent(named(element), new HashSet<>());
        boolean outer = element.getEnclosingElement().getSimpleName().contentEquals("TalkBridge");
        boolean isPublic = tree.getModifiers().getFlags().contains(Modifier.PUBLIC);
        boolean isMade = tree.getName().contentEquals("<init>");
        if (!isMade && outer && isPublic) {
            publicNames.add(tree.getName().toString());
        } else if (!isMade) {
            otherNames.add(tree.getName().toString());
            Due.due("rule 1: " + tree.getName() + " is not seen outside",
                !outer || tree.getModifiers().getFlags().contains(Modifier.PRIVATE), true);
        }
        Due.due("rule 11: parameters of " + tree.getName(), tree.getParameters().size() <= 7, true);
        long first = line(trees.getSourcePositions().getStartPosition(unit, tree));
        long last = line(Math.max(0, trees.getSourcePositions().getEndPosition(unit, tree)));
        Due.due("rule 11: lines of " + tree.getName(), last - first < 60, true);
        return super.visitMethod(tree, nothing);
    }

    @Override
    public Void visitMethodInvocation(MethodInvocationTree tree, Void nothing) {
        Element called = trees.getElement(getCurrentPath());
        String from = enclosingMethod();
        String name = named(called);
        if (from != null) {
            calls.computeIfAbsent(from, m -> new HashSet<>()).add(name);
        }
        boolean own = trees.getTree(called) != null;
        Due.due("rule 4: " + name, own || LIBRARY.contains(name), true);
        return super.visitMethodInvocation(tree, nothing);
    }

    @Override
    public Void visitBinary(BinaryTree tree, Void nothing) {
        boolean text = "java.lang.String".equals(String.valueOf(trees.getTypeMirror(getCurrentPath())));
        Due.due("rule 10: no texts joined by +", text, false);
        return super.visitBinary(tree, nothing);
    }

    /** No call makes anything, so what a run makes is what its constructors made. */
    @Override
    public Void visitNewClass(NewClassTree tree, Void nothing) {
        if (enclosingMethod() != null || tree.getClassBody() != null) {
            no("rule 12: new in a method", tree);
        }
        return super.visitNewClass(tree, nothing);
    }

    @Override
    public Void visitNewArray(NewArrayTree tree, Void nothing) {
        if (enclosingMethod() != null) {
            no("rule 12: new in a method", tree);
        }
        return super.visitNewArray(tree, nothing);
    }

    @Override
    public Void visitThrow(ThrowTree tree, Void nothing) {
        no("rule 6: throw", tree);
        return super.visitThrow(tree, nothing);
    }

    @Override
    public Void visitTry(TryTree tree, Void nothing) {
        no("rule 6: try", tree);
        return super.visitTry(tree, nothing);
    }

    @Override
    public Void visitSynchronized(SynchronizedTree tree, Void nothing) {
        no("rule 6: synchronized", tree);
        return super.visitSynchronized(tree, nothing);
    }

    @Override
    public Void visitAssert(AssertTree tree, Void nothing) {
        no("rule 6: assert", tree);
        return super.visitAssert(tree, nothing);
    }

    @Override
    public Void visitLambdaExpression(LambdaExpressionTree tree, Void nothing) {
        no("rule 2: lambda", tree);
        return super.visitLambdaExpression(tree, nothing);
    }

    @Override
    public Void visitMemberReference(MemberReferenceTree tree, Void nothing) {
        no("rule 2: method reference", tree);
        return super.visitMemberReference(tree, nothing);
    }

    @Override
    public Void visitAnnotation(AnnotationTree tree, Void nothing) {
        no("no annotation is needed", tree);
        return super.visitAnnotation(tree, nothing);
    }
}
