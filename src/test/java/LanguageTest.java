import com.sun.source.tree.ArrayAccessTree;
import com.sun.source.tree.AssertTree;
import com.sun.source.tree.BinaryTree;
import com.sun.source.tree.ClassTree;
import com.sun.source.tree.CompilationUnitTree;
import com.sun.source.tree.ImportTree;
import com.sun.source.tree.InstanceOfTree;
import com.sun.source.tree.LambdaExpressionTree;
import com.sun.source.tree.MemberReferenceTree;
import com.sun.source.tree.MethodInvocationTree;
import com.sun.source.tree.MethodTree;
import com.sun.source.tree.NewArrayTree;
import com.sun.source.tree.NewClassTree;
import com.sun.source.tree.SynchronizedTree;
import com.sun.source.tree.ThrowTree;
import com.sun.source.tree.Tree;
import com.sun.source.tree.TryTree;
import com.sun.source.tree.TypeCastTree;
import com.sun.source.tree.VariableTree;
import com.sun.source.util.JavacTask;
import com.sun.source.util.SourcePositions;
import com.sun.source.util.TreePathScanner;
import com.sun.source.util.Trees;
import java.io.File;
import java.io.IOException;
import java.util.ArrayList;
import java.util.HashMap;
import java.util.HashSet;
import java.util.List;
import java.util.Map;
import java.util.Set;
import java.util.TreeMap;
import java.util.TreeSet;
import javax.lang.model.element.Element;
import javax.lang.model.element.Modifier;
import javax.tools.JavaCompiler;
import javax.tools.StandardJavaFileManager;
import javax.tools.ToolProvider;

/** The program keeps to LANGUAGE.md, as far as a program can tell. */
public final class LanguageTest {
    private static final Set<String> LIBRARY = Set.of(
        "Math.abs", "Math.max", "Math.min", "Integer.bitCount", "Arrays.fill", "System.arraycopy",
        "String.charAt", "String.length");
    private static final Set<String> OWN_INDEX_TESTS = Set.of("at", "put", "nameAt", "Tokens", "wordKind",
        "addMan", "manNamed", "Past", "remember", "takeBack", "slotAt");

    private static final Map<Element, Set<Element>> CALLS = new HashMap<>();
    private static final Map<Element, String> NAMES = new HashMap<>();
    private static final List<String> FAULTS = new ArrayList<>();

    private static final class Look extends TreePathScanner<Void, Void> {
        private final Trees trees;
        private final CompilationUnitTree unit;
        private final SourcePositions places;
        private final Set<String> publicNames = new HashSet<>();
        private int classes = 0;
        private MethodTree method = null;
        private Element methodElement = null;
        private int depth = 0;

        Look(Trees trees, CompilationUnitTree unit) {
            this.trees = trees;
            this.unit = unit;
            this.places = trees.getSourcePositions();
        }

        private long line(Tree tree) {
            return unit.getLineMap().getLineNumber(places.getStartPosition(unit, tree));
        }

        private void fault(Tree tree, String what) {
            FAULTS.add("line " + line(tree) + ": " + what);
        }

        @Override
        public Void visitImport(ImportTree tree, Void none) {
            if (!tree.getQualifiedIdentifier().toString().matches("java\\.util\\.(Arrays|ArrayList|List)")) {
                fault(tree, "rule 4: " + tree);
            }
            return null;
        }

        @Override
        public Void visitClass(ClassTree tree, Void none) {
            classes++;
            depth++;
            int fields = 0;
            for (Tree member : tree.getMembers()) {
                if (member instanceof VariableTree) {
                    Set<Modifier> flags = ((VariableTree) member).getModifiers().getFlags();
                    fields += flags.contains(Modifier.STATIC) ? 0 : 1;
                    if (flags.contains(Modifier.STATIC) && !flags.contains(Modifier.FINAL)) {
                        fault(member, "rule 5: a static field that is not final");
                    }
                } else if (member instanceof MethodTree && depth == 1) {
                    MethodTree method = (MethodTree) member;
                    if (method.getModifiers().getFlags().contains(Modifier.PUBLIC)) {
                        publicNames.add(method.getName().toString());
                    } else if (!method.getModifiers().getFlags().contains(Modifier.PRIVATE)) {
                        fault(member, "rule 1: neither public nor private");
                    }
                } else if (member.getKind() == Tree.Kind.BLOCK) {
                    fault(member, "rule 5: an initialiser block");
                }
            }
            if (fields > 20) {
                fault(tree, "rule 11: fields " + fields);
            }
            if (depth > 2 || (depth == 2 && !tree.getModifiers().getFlags().contains(Modifier.STATIC))) {
                fault(tree, "rule 2: " + tree.getSimpleName());
            }
            super.visitClass(tree, none);
            depth--;
            return null;
        }

        @Override
        public Void visitMethod(MethodTree tree, Void none) {
            method = tree;
            methodElement = trees.getElement(getCurrentPath());
            CALLS.put(methodElement, new HashSet<>());
            NAMES.put(methodElement, methodElement.getEnclosingElement().getSimpleName() + "." + tree.getName());
            long end = unit.getLineMap().getLineNumber(Math.max(0, places.getEndPosition(unit, tree)));
            if (end - line(tree) + 1 > 60) {
                fault(tree, "rule 11: lines of " + tree.getName());
            }
            if (tree.getParameters().size() > 7) {
                fault(tree, "rule 11: parameters of " + tree.getName());
            }
            boolean constructor = tree.getReturnType() == null;
            boolean isPublic = tree.getModifiers().getFlags().contains(Modifier.PUBLIC);
            if (!isPublic && !constructor && publicNames.contains(tree.getName().toString())) {
                fault(tree, "rule 1: the name of a public one: " + tree.getName());
            }
            super.visitMethod(tree, none);
            method = null;
            methodElement = null;
            return null;
        }

        @Override
        public Void visitMethodInvocation(MethodInvocationTree tree, Void none) {
            Element called = trees.getElement(new com.sun.source.util.TreePath(getCurrentPath(),
                tree.getMethodSelect()));
            String name = called.getEnclosingElement().getSimpleName() + "." + called.getSimpleName();
            boolean own = called.getEnclosingElement().toString().startsWith("ThreadTown");
            boolean constructor = called.getSimpleName().contentEquals("<init>");
            if (own && methodElement != null) {
                CALLS.get(methodElement).add(called);
            } else if (!own && !constructor && !LIBRARY.contains(name)) {
                fault(tree, "rule 4: " + name);
            }
            return super.visitMethodInvocation(tree, none);
        }

        private void makes(Tree tree) {
            if (method != null && !method.getName().contentEquals("<init>")) {
                fault(tree, "rule 12: a call makes an object");
            }
        }

        @Override
        public Void visitNewClass(NewClassTree tree, Void none) {
            makes(tree);
            return super.visitNewClass(tree, none);
        }

        @Override
        public Void visitNewArray(NewArrayTree tree, Void none) {
            makes(tree);
            return super.visitNewArray(tree, none);
        }

        @Override
        public Void visitArrayAccess(ArrayAccessTree tree, Void none) {
            String name = method.getName().toString();
            String owner = methodElement.getEnclosingElement().getSimpleName().toString();
            if (!OWN_INDEX_TESTS.contains(name.equals("<init>") ? owner : name)) {
                fault(tree, "an index that at() or put() should test");
            }
            return super.visitArrayAccess(tree, none);
        }

        @Override
        public Void visitBinary(BinaryTree tree, Void none) {
            String left = String.valueOf(trees.getTypeMirror(
                new com.sun.source.util.TreePath(getCurrentPath(), tree.getLeftOperand())));
            if (left.equals("java.lang.String")) {
                fault(tree, "rule 10 or 6: an operator on texts");
            }
            return super.visitBinary(tree, none);
        }

        @Override
        public Void visitThrow(ThrowTree tree, Void none) {
            fault(tree, "rule 6: throw");
            return null;
        }

        @Override
        public Void visitTry(TryTree tree, Void none) {
            fault(tree, "rule 6: try");
            return null;
        }

        @Override
        public Void visitAssert(AssertTree tree, Void none) {
            fault(tree, "rule 6: assert");
            return null;
        }

        @Override
        public Void visitSynchronized(SynchronizedTree tree, Void none) {
            fault(tree, "rule 6: synchronized");
            return null;
        }

        @Override
        public Void visitLambdaExpression(LambdaExpressionTree tree, Void none) {
            fault(tree, "rule 2: lambda");
            return null;
        }

        @Override
        public Void visitMemberReference(MemberReferenceTree tree, Void none) {
            fault(tree, "rule 2: method reference");
            return null;
        }

        @Override
        public Void visitInstanceOf(InstanceOfTree tree, Void none) {
            fault(tree, "instanceof is not needed here");
            return null;
        }

        @Override
        public Void visitTypeCast(TypeCastTree tree, Void none) {
            fault(tree, "a cast is not needed here");
            return null;
        }
    }

    /** How many calls stand open at most; a call that calls itself is a fault. */
    private static int deepest(Element method, Map<Element, Integer> known, Set<Element> open) {
        if (known.containsKey(method)) {
            return known.get(method);
        }
        if (!open.add(method)) {
            FAULTS.add("rule 8: " + NAMES.get(method) + " calls itself");
            return 0;
        }
        int below = 0;
        for (Element called : CALLS.getOrDefault(method, Set.of())) {
            below = Math.max(below, deepest(called, known, open));
        }
        open.remove(method);
        known.put(method, below + 1);
        return below + 1;
    }

    private static void checkDepths() {
        Map<Element, Integer> known = new HashMap<>();
        Map<Integer, Set<String>> byDepth = new TreeMap<>();
        for (Element method : CALLS.keySet()) {
            int depth = deepest(method, known, new HashSet<>());
            byDepth.computeIfAbsent(depth, key -> new TreeSet<>()).add(NAMES.get(method));
            if (depth > 8) {
                FAULTS.add("rule 11: " + NAMES.get(method) + " goes " + depth + " calls deep");
            }
        }
        System.out.println("calls that go deepest: " + byDepth.get(8));
    }

    public static void main(String[] args) throws IOException {
        JavaCompiler compiler = ToolProvider.getSystemJavaCompiler();
        StandardJavaFileManager files = compiler.getStandardFileManager(null, null, null);
        JavacTask task = (JavacTask) compiler.getTask(null, files, null, List.of("-proc:none"), null,
            files.getJavaFileObjects(new File("src/main/java/ThreadTown.java")));
        CompilationUnitTree unit = task.parse().iterator().next();
        task.analyze();
        Look look = new Look(Trees.instance(task), unit);
        look.scan(unit, null);
        checkDepths();
        if (look.classes > 12) {
            FAULTS.add("rule 11: classes " + look.classes);
        }
        for (String fault : FAULTS) {
            System.out.println(fault);
        }
        Check.due("faults of language", 0, FAULTS.size());
        Check.finish();
    }
}
