import com.sun.source.tree.AssertTree;
import com.sun.source.tree.BinaryTree;
import com.sun.source.tree.ClassTree;
import com.sun.source.tree.CompilationUnitTree;
import com.sun.source.tree.LambdaExpressionTree;
import com.sun.source.tree.LiteralTree;
import com.sun.source.tree.MemberReferenceTree;
import com.sun.source.tree.MethodInvocationTree;
import com.sun.source.tree.MethodTree;
import com.sun.source.tree.NewClassTree;
import com.sun.source.tree.SynchronizedTree;
import com.sun.source.tree.Tree;
import com.sun.source.tree.TryTree;
import com.sun.source.tree.VariableTree;
import com.sun.source.util.JavacTask;
import com.sun.source.util.TreePathScanner;
import com.sun.source.util.Trees;
import java.io.File;
import java.io.IOException;
import java.util.HashMap;
import java.util.HashSet;
import java.util.List;
import java.util.Map;
import java.util.Set;
import java.util.TreeSet;
import javax.lang.model.element.Element;
import javax.lang.model.element.ElementKind;
import javax.lang.model.element.Modifier;
import javax.lang.model.type.TypeMirror;
import javax.tools.JavaCompiler;
import javax.tools.StandardJavaFileManager;
import javax.tools.ToolProvider;

/** The rules of LANGUAGE.md that can be read off the file; the rules' numbers stand in the messages. */
public final class RulesTest {
    private static final Check CHECK = new Check();
    private static final Set<String> LIBRARY = Set.of("Math.max", "Math.min", "Math.abs", "Integer.bitCount",
        "Arrays.fill", "System.arraycopy", "Object.<init>", "NoSuchElementException.<init>");

    public static void main(String[] args) throws IOException {
        JavaCompiler compiler = ToolProvider.getSystemJavaCompiler();
        try (StandardJavaFileManager files = compiler.getStandardFileManager(null, null, null)) {
            JavacTask task = (JavacTask) compiler.getTask(null, files, null, List.of("-proc:none"), null,
                files.getJavaFileObjects(new File("src/main/java/WeatherMarbles.java")));
            CompilationUnitTree unit = task.parse().iterator().next();
            task.analyze();
            CHECK.due("no package", unit.getPackageName() == null, true);
            Reader reader = new Reader(Trees.instance(task), unit);
            reader.scan(unit, null);
            CHECK.due("11: at most twelve classes", reader.classes <= 12, true);
            reader.dueDepth();
        }
        CHECK.finish();
    }

    private static final class Reader extends TreePathScanner<Void, Void> {
        private final Trees trees;
        private final CompilationUnitTree unit;
        private final Map<Element, Set<Element>> calls = new HashMap<>();
        private final Set<String> face = new TreeSet<>();
        private Element method;
        private int classes;

        Reader(Trees trees, CompilationUnitTree unit) {
            this.trees = trees;
            this.unit = unit;
        }

        private long line(Tree tree, boolean end) {
            long at = end ? trees.getSourcePositions().getEndPosition(unit, tree)
                : trees.getSourcePositions().getStartPosition(unit, tree);
            return unit.getLineMap().getLineNumber(at);
        }

        private void forbid(String what, Tree tree) {
            CHECK.due(what + " at line " + line(tree, false), 1, 0);
        }

        @Override
        public Void visitClass(ClassTree tree, Void v) {
            classes++;
            Element self = trees.getElement(getCurrentPath());
            int fields = 0;
            Set<String> names = new HashSet<>();
            for (Element e : self.getEnclosedElements()) {
                boolean outer = self.getEnclosingElement().getKind() == ElementKind.PACKAGE;
                boolean constant = e.getModifiers().contains(Modifier.STATIC);
                if (e.getKind() == ElementKind.FIELD) {
                    fields += constant ? 0 : 1;
                    CHECK.due("5: static is final: " + e, constant && !e.getModifiers().contains(Modifier.FINAL), false);
                } else if (e.getKind() == ElementKind.METHOD) {
                    CHECK.due("two methods of one name: " + e, names.add(e.getSimpleName().toString()), true);
                    if (outer && e.getModifiers().contains(Modifier.PUBLIC)) {
                        face.add(e.getSimpleName().toString());
                    } else {
                        CHECK.due("1: the name of " + e, face.contains(e.getSimpleName().toString()), false);
                    }
                } else if (e.getKind() == ElementKind.STATIC_INIT) {
                    CHECK.due("5: no static initialiser", 1, 0);
                } else if (e.getKind() == ElementKind.CLASS) {
                    CHECK.due("1: static classes", e.getModifiers().contains(Modifier.STATIC), true);
                }
            }
            CHECK.due("11: at most twenty fields in " + self, fields <= 20, true);
            return super.visitClass(tree, v);
        }

        @Override
        public Void visitMethod(MethodTree tree, Void v) {
            method = trees.getElement(getCurrentPath());
            calls.putIfAbsent(method, new HashSet<>());
            CHECK.due("11: at most sixty lines: " + method, line(tree, true) - line(tree, false) < 60, true);
            CHECK.due("11: at most seven parameters: " + method, tree.getParameters().size() <= 7, true);
            return super.visitMethod(tree, v);
        }

        private void called(Element target, Tree tree) {
            if (target.getEnclosingElement().toString().startsWith("java.")) {
                String name = target.getEnclosingElement().getSimpleName() + "." + target.getSimpleName();
                CHECK.due("4: " + name + " at line " + line(tree, false), LIBRARY.contains(name), true);
            } else if (method != null) {
                calls.get(method).add(target);
            }
        }

        @Override
        public Void visitMethodInvocation(MethodInvocationTree tree, Void v) {
            called(trees.getElement(getCurrentPath()), tree);
            return super.visitMethodInvocation(tree, v);
        }

        @Override
        public Void visitNewClass(NewClassTree tree, Void v) {
            called(trees.getElement(getCurrentPath()), tree);
            return super.visitNewClass(tree, v);
        }

        @Override
        public Void visitVariable(VariableTree tree, Void v) {
            TypeMirror type = trees.getTypeMirror(getCurrentPath());
            boolean fine = type == null || !type.toString().startsWith("java.");
            CHECK.due("3: the type of " + tree.getName(), fine, true);
            return super.visitVariable(tree, v);
        }

        @Override
        public Void visitBinary(BinaryTree tree, Void v) {
            boolean texts = trees.getTypeMirror(getCurrentPath()).toString().equals("java.lang.String");
            CHECK.due("10: no text joined by +", texts, false);
            return super.visitBinary(tree, v);
        }

        @Override
        public Void visitLiteral(LiteralTree tree, Void v) {
            if (tree.getValue() instanceof String text) {
                CHECK.due("4: signs 1 to 127", text.chars().allMatch(c -> c >= 1 && c <= 127), true);
            }
            return super.visitLiteral(tree, v);
        }

        @Override
        public Void visitLambdaExpression(LambdaExpressionTree tree, Void v) {
            forbid("2: a lambda", tree);
            return super.visitLambdaExpression(tree, v);
        }

        @Override
        public Void visitMemberReference(MemberReferenceTree tree, Void v) {
            forbid("2: a method reference", tree);
            return super.visitMemberReference(tree, v);
        }

        @Override
        public Void visitTry(TryTree tree, Void v) {
            forbid("6: nothing here needs a try", tree);
            return super.visitTry(tree, v);
        }

        @Override
        public Void visitAssert(AssertTree tree, Void v) {
            forbid("6: an assert", tree);
            return super.visitAssert(tree, v);
        }

        @Override
        public Void visitSynchronized(SynchronizedTree tree, Void v) {
            forbid("6: synchronized", tree);
            return super.visitSynchronized(tree, v);
        }

        /** Rule 11: calls that are no recursion go at most eight deep (a library's call is one). */
        void dueDepth() {
            for (Element e : calls.keySet()) {
                CHECK.due("11: at most eight deep from " + e, depth(e, new HashSet<>()) <= 8, true);
            }
        }

        /** The longest chain of calls from here; those that lead back to a caller are recursion and count once. */
        private int depth(Element e, Set<Element> open) {
            int deepest = 0;
            open.add(e);
            for (Element callee : calls.getOrDefault(e, Set.of())) {
                if (!open.contains(callee)) {
                    int step = leadsTo(callee, e, new HashSet<>()) ? 0 : 1;
                    deepest = Math.max(deepest, depth(callee, open) - 1 + step);
                }
            }
            open.remove(e);
            return deepest + 1;
        }

        private boolean leadsTo(Element from, Element to, Set<Element> been) {
            if (from.equals(to)) {
                return true;
            }
            boolean leads = false;
            for (Element callee : been.add(from) ? calls.getOrDefault(from, Set.<Element>of()) : Set.<Element>of()) {
                leads |= leadsTo(callee, to, been);
            }
            return leads;
        }
    }
}
