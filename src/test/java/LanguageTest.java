import com.sun.source.tree.BinaryTree;
import com.sun.source.tree.ClassTree;
import com.sun.source.tree.CompilationUnitTree;
import com.sun.source.tree.ExpressionTree;
import com.sun.source.tree.MethodInvocationTree;
import com.sun.source.tree.MethodTree;
import com.sun.source.tree.NewArrayTree;
import com.sun.source.tree.NewClassTree;
import com.sun.source.tree.Tree;
import com.sun.source.tree.VariableTree;
import com.sun.source.util.JavacTask;
import com.sun.source.util.TreePath;
import com.sun.source.util.TreePathScanner;
import com.sun.source.util.Trees;
import java.nio.file.Path;
import java.util.ArrayDeque;
import java.util.Deque;
import java.util.HashSet;
import java.util.LinkedHashMap;
import java.util.LinkedHashSet;
import java.util.List;
import java.util.Map;
import java.util.Set;
import javax.lang.model.element.Element;
import javax.lang.model.element.Modifier;
import javax.lang.model.element.VariableElement;
import javax.tools.JavaCompiler;
import javax.tools.StandardJavaFileManager;
import javax.tools.ToolProvider;

/** The rules of ../shared/LANGUAGE.md that the compiler's own tree of the class can tell: who calls whom, and what. */
public final class LanguageTest {
    private static final Check CHECK = new Check();
    private static final int DEEPEST = 8;
    private static final Set<String> TYPES = Set.of("int", "long", "boolean", "int[]", "boolean[]", "int[][]", "void", "java.lang.String");
    private static final Set<String> LIBRARY = Set.of("java.lang.Integer.bitCount", "java.lang.Math.max", "java.lang.Math.min",
        "java.lang.String.charAt", "java.lang.String.length", "java.lang.System.arraycopy", "java.util.Arrays.fill", "java.lang.Object.<init>",
        "java.util.NoSuchElementException.<init>");

    // Which methods of the class each of its methods calls.
    private static final Map<Element, Set<Element>> CALLS = new LinkedHashMap<>();

    public static void main(String[] args) throws Exception {
        JavaCompiler compiler = ToolProvider.getSystemJavaCompiler();
        try (StandardJavaFileManager files = compiler.getStandardFileManager(null, null, null)) {
            JavacTask task = (JavacTask) compiler.getTask(null, files, null, List.of("-proc:none"), null,
                files.getJavaFileObjects(Path.of("src/main/java/WordTables.java")));
            CompilationUnitTree unit = task.parse().iterator().next();
            task.analyze();
            new Reading(Trees.instance(task)).scan(unit, null);
        }
        CHECK.part("what was read");
        CHECK.due("many methods", CALLS.size() > 100, true);
        recursions();
        depths();
        CHECK.end();
    }

    private static Set<Element> calledFrom(Element method) {
        Set<Element> reached = new HashSet<>();
        Deque<Element> next = new ArrayDeque<>(CALLS.get(method));
        while (!next.isEmpty()) {
            Element called = next.pop();
            if (reached.add(called)) {
                next.addAll(CALLS.getOrDefault(called, Set.of()));
            }
        }
        return reached;
    }

    /** What comes back to itself does so by private methods alone. */
    private static void recursions() {
        CHECK.part("rule 8");
        for (Element method : CALLS.keySet()) {
            if (calledFrom(method).contains(method)) {
                CHECK.due(method + " comes back to itself and is private", method.getModifiers().contains(Modifier.PRIVATE), true);
            }
        }
    }

    private static void depths() {
        CHECK.part("rule 11");
        for (Element method : CALLS.keySet()) {
            int depth = depthFrom(method, new HashSet<>());
            CHECK.due(method + " goes eight calls deep at most: " + depth, depth <= DEEPEST, true);
        }
    }

    private static int depthFrom(Element method, Set<Element> open) {
        int deepest = 0;
        open.add(method);
        for (Element called : CALLS.getOrDefault(method, Set.of())) {
            if (!open.contains(called)) {
                deepest = Math.max(deepest, depthFrom(called, open));
            }
        }
        open.remove(method);
        return deepest + 1;
    }

    /** Goes through the class; what it carries along is the method that it is in, null outside. */
    private static final class Reading extends TreePathScanner<Void, Element> {
        private final Trees trees;

        Reading(Trees trees) {
            this.trees = trees;
        }

        private Element here() {
            return trees.getElement(getCurrentPath());
        }

        private String typeOf(Tree tree) {
            return String.valueOf(trees.getTypeMirror(new TreePath(getCurrentPath(), tree)));
        }

        private boolean isText(ExpressionTree tree) {
            return typeOf(tree).equals("java.lang.String");
        }

        @Override
        public Void visitClass(ClassTree tree, Element method) {
            CHECK.part("rule 2");
            CHECK.due(tree.getSimpleName() + " stands in no method", method == null, true);
            boolean isFace = here().getSimpleName().contentEquals("WordTables");
            CHECK.due(tree.getSimpleName() + " is static or the face", isFace || here().getModifiers().contains(Modifier.STATIC), true);
            return super.visitClass(tree, null);
        }

        @Override
        public Void visitMethod(MethodTree tree, Element outside) {
            CALLS.put(here(), new LinkedHashSet<>());
            CHECK.part("rule 3");
            if (tree.getReturnType() != null) {
                type(here() + " answers", typeOf(tree.getReturnType()));
            }
            return super.visitMethod(tree, here());
        }

        @Override
        public Void visitVariable(VariableTree tree, Element method) {
            CHECK.part("rule 3");
            type(tree.getName().toString(), typeOf(tree.getType()));
            CHECK.part("rule 5");
            VariableElement variable = (VariableElement) here();
            boolean isStatic = variable.getModifiers().contains(Modifier.STATIC);
            CHECK.due(tree.getName() + " is a constant if it is static", !isStatic || variable.getConstantValue() != null, true);
            return super.visitVariable(tree, method);
        }

        private void type(String what, String type) {
            boolean isOwn = type.matches("WordTables\\.\\w+(\\[\\])?");
            CHECK.due(what + " is of a type that may be: " + type, isOwn || TYPES.contains(type), true);
        }

        @Override
        public Void visitMethodInvocation(MethodInvocationTree tree, Element method) {
            called(here(), method);
            return super.visitMethodInvocation(tree, method);
        }

        @Override
        public Void visitNewClass(NewClassTree tree, Element method) {
            called(here(), method);
            CHECK.part("rule 12");
            boolean isThrown = getCurrentPath().getParentPath().getLeaf().getKind() == Tree.Kind.THROW;
            CHECK.due(tree + " is made with an object, or thrown", isThrown || isMaking(method), true);
            CHECK.part("rule 6");
            CHECK.due(tree + " is thrown by a method", !isThrown || method != null && !isMaking(method), true);
            return super.visitNewClass(tree, method);
        }

        @Override
        public Void visitNewArray(NewArrayTree tree, Element method) {
            CHECK.part("rule 12");
            CHECK.due(tree + " is made with an object", isMaking(method), true);
            return super.visitNewArray(tree, method);
        }

        private static boolean isMaking(Element method) {
            return method == null || method.getSimpleName().contentEquals("<init>");
        }

        private static void called(Element called, Element method) {
            Element owner = called.getEnclosingElement();
            if (!owner.toString().startsWith("WordTables")) {
                CHECK.part("rule 4");
                String name = owner + "." + called.getSimpleName();
                CHECK.due(name + " is in the library that may be used", LIBRARY.contains(name), true);
            } else if (method != null) {
                CALLS.get(method).add(called);
            }
        }

        @Override
        public Void visitBinary(BinaryTree tree, Element method) {
            CHECK.part("rules 6 and 10");
            boolean ofText = isText(tree.getLeftOperand()) || isText(tree.getRightOperand());
            CHECK.due(tree + " isn't of texts", ofText, false);
            return super.visitBinary(tree, method);
        }
    }
}
