import com.sun.source.tree.ArrayAccessTree;
import com.sun.source.tree.AssignmentTree;
import com.sun.source.tree.ClassTree;
import com.sun.source.tree.CompilationUnitTree;
import com.sun.source.tree.CompoundAssignmentTree;
import com.sun.source.tree.IdentifierTree;
import com.sun.source.tree.MemberSelectTree;
import com.sun.source.tree.MethodInvocationTree;
import com.sun.source.tree.MethodTree;
import com.sun.source.tree.NewClassTree;
import com.sun.source.tree.Tree;
import com.sun.source.tree.UnaryTree;
import com.sun.source.tree.VariableTree;
import com.sun.source.util.JavacTask;
import com.sun.source.util.TreePath;
import com.sun.source.util.TreePathScanner;
import com.sun.source.util.Trees;
import java.io.IOException;
import java.util.Comparator;
import java.util.EnumSet;
import java.util.List;
import java.util.Map;
import java.util.Set;
import java.util.TreeMap;
import java.util.TreeSet;
import javax.lang.model.element.Element;
import javax.lang.model.element.ElementKind;
import javax.lang.model.element.ExecutableElement;
import javax.lang.model.element.Modifier;
import javax.lang.model.element.TypeElement;
import javax.lang.model.type.ArrayType;
import javax.lang.model.type.TypeKind;
import javax.lang.model.type.TypeMirror;
import javax.tools.JavaCompiler;
import javax.tools.ToolProvider;

/**
 * The rules of LANGUAGE.md, by their numbers, of which the text alone does not tell enough: the class is
 * looked at as the compiler reads it, each name with what it stands for. Run where src/ is.
 */
public final class RulesTest {
    private static final String SOURCE = "src/main/java/TimedJoin.java";
    private static final int DEEPEST = 8;

    /** What the class uses of what rule 4 lists; whatever else it is to use is looked up there first. */
    private static final Set<String> LISTED = Set.of(
        "java.lang.Math.max", "java.lang.Math.min", "java.lang.System.arraycopy", "java.lang.Object.<init>");

    private static final Set<Tree.Kind> FORBIDDEN = EnumSet.of(
        Tree.Kind.THROW, Tree.Kind.TRY, Tree.Kind.CATCH, Tree.Kind.SYNCHRONIZED, Tree.Kind.ASSERT,
        Tree.Kind.LAMBDA_EXPRESSION, Tree.Kind.MEMBER_REFERENCE, Tree.Kind.IMPORT, Tree.Kind.PACKAGE);

    private final Check check = new Check("RulesTest");
    /** Of each method the ones that it calls, those of the library too. */
    private final Map<String, Set<String>> calls = new TreeMap<>();
    private final Map<String, Integer> depths = new TreeMap<>();

    public static void main(String[] args) throws IOException {
        RulesTest test = new RulesTest();
        test.look();
        test.depth();
        test.check.end();
    }

    private void look() throws IOException {
        JavaCompiler compiler = ToolProvider.getSystemJavaCompiler();
        var manager = compiler.getStandardFileManager(null, null, null);
        JavacTask task = (JavacTask) compiler.getTask(null, manager, null, List.of("-proc:none"), null,
            manager.getJavaFileObjects(SOURCE));
        Iterable<? extends CompilationUnitTree> units = task.parse();
        task.analyze();
        for (CompilationUnitTree unit : units) {
            new Reader(Trees.instance(task)).scan(unit, null);
        }
    }

    /** Rule 8: no method comes back to itself. Rule 11: calls go at most eight deep. */
    private void depth() {
        check.due("methods were found", calls.size() > 100, true);
        for (String method : new TreeSet<>(calls.keySet())) {
            int deep = depthOf(method, new TreeSet<>());
            check.due("rule 11: " + method + " goes " + deep + " deep, few enough", deep <= DEEPEST, true);
        }
        String deepest = depths.keySet().stream().max(Comparator.comparing(depths::get)).orElse("");
        check.due("rule 11: " + deepest + " is the deepest and has calls", depths.getOrDefault(deepest, 0) > 1, true);
    }

    private int depthOf(String method, Set<String> open) {
        if (depths.containsKey(method)) {
            return depths.get(method);
        }
        boolean isNew = open.add(method);
        check.due("rule 8: " + method + " calls itself", isNew, true);
        int most = 0;
        if (isNew) {
            for (String called : calls.getOrDefault(method, Set.of())) {
                most = Math.max(most, depthOf(called, open));
            }
            open.remove(method);
        }
        depths.put(method, most + 1);
        return most + 1;
    }

    private final class Reader extends TreePathScanner<Void, Void> {
        private final Trees trees;
        private String method = "";

        private Reader(Trees trees) {
            this.trees = trees;
        }

        @Override
        public Void scan(Tree tree, Void none) {
            if (tree != null) {
                check.due("rules 2, 4, 6: " + tree.getKind() + ": " + tree, FORBIDDEN.contains(tree.getKind()), false);
            }
            return super.scan(tree, none);
        }

        @Override
        public Void visitClass(ClassTree tree, Void none) {
            boolean inAnother = getCurrentPath().getParentPath().getLeaf() instanceof ClassTree;
            boolean isStatic = tree.getModifiers().getFlags().contains(Modifier.STATIC);
            boolean top = getCurrentPath().getParentPath().getLeaf() instanceof CompilationUnitTree;
            check.due("rule 2: " + tree.getSimpleName() + " is a class inside, and static", top || inAnother && isStatic, true);
            boolean block = tree.getMembers().stream().anyMatch(m -> m.getKind() == Tree.Kind.BLOCK);
            check.due("rule 5: " + tree.getSimpleName() + " has an initialiser block", block, false);
            return super.visitClass(tree, none);
        }

        @Override
        public Void visitMethod(MethodTree tree, Void none) {
            method = nameOf(trees.getElement(getCurrentPath()));
            calls.computeIfAbsent(method, m -> new TreeSet<>());
            super.visitMethod(tree, none);
            method = "";
            return null;
        }

        @Override
        public Void visitVariable(VariableTree tree, Void none) {
            TypeMirror type = trees.getTypeMirror(getCurrentPath());
            check.due("rule 3: " + tree + " is of a type that may be", mayBe(type), true);
            Element field = trees.getElement(getCurrentPath());
            if (field.getKind() == ElementKind.FIELD && field.getModifiers().contains(Modifier.STATIC)) {
                boolean written = tree.getInitializer() != null && field.getModifiers().contains(Modifier.FINAL);
                check.due("rule 5: " + tree.getName() + " is final and written out", written, true);
            }
            return super.visitVariable(tree, none);
        }

        private boolean mayBe(TypeMirror type) {
            if (type.getKind() == TypeKind.ARRAY) {
                TypeKind of = ((ArrayType) type).getComponentType().getKind();
                return of == TypeKind.INT || of == TypeKind.LONG;
            }
            boolean number = type.getKind() == TypeKind.INT || type.getKind() == TypeKind.LONG;
            return number || type.getKind() == TypeKind.BOOLEAN || type.toString().startsWith("TimedJoin");
        }

        @Override
        public Void visitMethodInvocation(MethodInvocationTree tree, Void none) {
            called(trees.getElement(new TreePath(getCurrentPath(), tree.getMethodSelect())));
            return super.visitMethodInvocation(tree, none);
        }

        @Override
        public Void visitNewClass(NewClassTree tree, Void none) {
            check.due("rule 2: " + tree + " has a body of its own", tree.getClassBody() != null, false);
            called(trees.getElement(getCurrentPath()));
            return super.visitNewClass(tree, none);
        }

        private void called(Element element) {
            if (!method.isEmpty()) {
                calls.get(method).add(nameOf(element));
            }
        }

        @Override
        public Void visitIdentifier(IdentifierTree tree, Void none) {
            ownOrListed(trees.getElement(getCurrentPath()));
            return super.visitIdentifier(tree, none);
        }

        @Override
        public Void visitMemberSelect(MemberSelectTree tree, Void none) {
            ownOrListed(trees.getElement(getCurrentPath()));
            return super.visitMemberSelect(tree, none);
        }

        /** A class of the library is named only ahead of one of its members, which is what is looked up. */
        private void ownOrListed(Element element) {
            boolean member = element.getKind() == ElementKind.FIELD || element instanceof ExecutableElement;
            if (member && element.getEnclosingElement() instanceof TypeElement of) {
                boolean own = of.getQualifiedName().toString().startsWith("TimedJoin");
                boolean length = element.getSimpleName().contentEquals("length");
                boolean self = element.getSimpleName().contentEquals("this") || element.getSimpleName().contentEquals("super");
                boolean known = own || length || self || LISTED.contains(bareName(element));
                check.due("rule 4: " + bareName(element) + " is the class's own, or listed", known, true);
            }
        }

        @Override
        public Void visitAssignment(AssignmentTree tree, Void none) {
            notAConstant(tree.getVariable());
            return super.visitAssignment(tree, none);
        }

        @Override
        public Void visitCompoundAssignment(CompoundAssignmentTree tree, Void none) {
            notAConstant(tree.getVariable());
            return super.visitCompoundAssignment(tree, none);
        }

        @Override
        public Void visitUnary(UnaryTree tree, Void none) {
            boolean changes = EnumSet.of(Tree.Kind.PREFIX_INCREMENT, Tree.Kind.PREFIX_DECREMENT,
                Tree.Kind.POSTFIX_INCREMENT, Tree.Kind.POSTFIX_DECREMENT).contains(tree.getKind());
            if (changes) {
                notAConstant(tree.getExpression());
            }
            return super.visitUnary(tree, none);
        }

        /** Rule 5: an array of constants is never changed. */
        private void notAConstant(Tree changed) {
            if (changed instanceof ArrayAccessTree access) {
                TreePath path = new TreePath(new TreePath(getCurrentPath(), changed), access.getExpression());
                Element array = trees.getElement(path);
                boolean constant = array != null && array.getModifiers().contains(Modifier.STATIC);
                check.due("rule 5: " + changed + " is an array of constants", constant, false);
            }
        }
    }

    private static String bareName(Element element) {
        return element.getEnclosingElement() + "." + element.getSimpleName();
    }

    private static String nameOf(Element element) {
        return element.getEnclosingElement() + "." + element;
    }
}
