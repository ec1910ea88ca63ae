import com.sun.source.tree.*;
import com.sun.source.util.JavacTask;
import com.sun.source.util.TreePath;
import com.sun.source.util.TreePathScanner;
import com.sun.source.util.Trees;
import java.nio.file.Files;
import java.nio.file.Path;
import java.util.ArrayDeque;
import java.util.Deque;
import java.util.HashMap;
import java.util.HashSet;
import java.util.List;
import java.util.Map;
import java.util.Set;
import java.util.TreeSet;
import javax.lang.model.element.Element;
import javax.lang.model.element.ElementKind;
import javax.lang.model.element.ExecutableElement;
import javax.lang.model.element.Modifier;
import javax.lang.model.element.TypeElement;
import javax.lang.model.element.VariableElement;
import javax.lang.model.type.ArrayType;
import javax.lang.model.type.TypeKind;
import javax.lang.model.type.TypeMirror;
import javax.tools.JavaCompiler;
import javax.tools.JavaFileObject;
import javax.tools.StandardJavaFileManager;
import javax.tools.ToolProvider;

/** Rules of ../shared/LANGUAGE.md that a reading of the program's tree can tell. */
public final class LanguageTest {
    private static final Check check = new Check("LanguageTest");
    private static final Path PROGRAM = Path.of("src/main/java/CoinsLaid.java");
    private static final Set<String> LIBRARY = Set.of("java.util.ArrayList", "java.util.NoSuchElementException",
            "java.lang.String", "java.lang.StringBuilder", "java.lang.Integer", "java.lang.Long", "java.lang.Math",
            "java.lang.Object", "java.util.List", "java.util.Arrays", "java.lang.System");
    private static final Set<String> LIBRARY_CALLS = Set.of("ArrayList.<init>", "ArrayList.add", "ArrayList.get",
            "ArrayList.set", "ArrayList.remove", "ArrayList.size", "ArrayList.isEmpty", "ArrayList.clear",
            "String.length", "String.charAt", "String.isEmpty", "String.equals", "Integer.bitCount",
            "Integer.numberOfTrailingZeros", "Math.min", "Math.max", "Math.abs", "Object.<init>",
            "NoSuchElementException.<init>");

    private static CompilationUnitTree unit;
    private static Trees trees;

    public static void main(String[] args) throws Exception {
        String text = Files.readString(PROGRAM);
        check.due("signs of the program are 1 to 127", text.chars().allMatch(sign -> sign >= 1 && sign <= 127), true);
        JavaCompiler compiler = ToolProvider.getSystemJavaCompiler();
        StandardJavaFileManager files = compiler.getStandardFileManager(null, null, null);
        Iterable<? extends JavaFileObject> sources = files.getJavaFileObjects(PROGRAM);
        JavacTask task = (JavacTask) compiler.getTask(null, files, null, List.of("-proc:none"), null, sources);
        unit = task.parse().iterator().next();
        task.analyze();
        trees = Trees.instance(task);
        Reader reader = new Reader();
        reader.scan(unit, null);
        reader.judgeClasses();
        reader.judgeDepth();
        check.end();
    }

    private static final class Reader extends TreePathScanner<Void, Void> {
        private final Map<ExecutableElement, Set<ExecutableElement>> calls = new HashMap<>();
        private final Map<ExecutableElement, MethodTree> methods = new HashMap<>();
        private final Set<String> face = new TreeSet<>();
        private final Deque<ExecutableElement> open = new ArrayDeque<>();
        private int classes;

        private long line(Tree tree) {
            return unit.getLineMap().getLineNumber(trees.getSourcePositions().getStartPosition(unit, tree));
        }

        private void not(String rule, Tree tree) {
            check.due("line " + line(tree) + ": " + rule, true, false);
        }

        private Element element() {
            return trees.getElement(getCurrentPath());
        }

        @Override public Void visitClass(ClassTree tree, Void v) {
            classes++;
            TypeElement type = (TypeElement) element();
            boolean outer = getCurrentPath().getParentPath().getLeaf() == unit;
            check.due("rule 1, 2: modifiers of " + type, outer
                    ? type.getModifiers().containsAll(Set.of(Modifier.PUBLIC, Modifier.FINAL))
                    : type.getModifiers().contains(Modifier.STATIC) && !type.getModifiers().contains(Modifier.PUBLIC)
                            && !type.getModifiers().contains(Modifier.PROTECTED), true);
            int fields = 0;
            for (Element inside : type.getEnclosedElements()) {
                boolean isField = inside.getKind() == ElementKind.FIELD;
                fields += isField && !inside.getModifiers().contains(Modifier.STATIC) ? 1 : 0;
                if (isField && inside.getModifiers().contains(Modifier.STATIC)) {
                    judgeStatic((VariableElement) inside);
                }
                if (outer && inside.getKind() == ElementKind.METHOD && inside.getModifiers().contains(Modifier.PUBLIC)) {
                    face.add(inside.getSimpleName().toString());
                }
            }
            check.due("rule 11: fields of " + type + " are " + fields, fields <= 20, true);
            return super.visitClass(tree, v);
        }

        private void judgeStatic(VariableElement field) {
            check.due("rule 5: " + field, field.getModifiers().contains(Modifier.FINAL)
                    && (field.asType().getKind().isPrimitive() || field.asType().toString().equals("java.lang.String")), true);
        }

        @Override public Void visitMethod(MethodTree tree, Void v) {
            ExecutableElement method = (ExecutableElement) element();
            methods.put(method, tree);
            calls.put(method, new HashSet<>());
            long first = line(tree);
            long end = trees.getSourcePositions().getEndPosition(unit, tree);
            long lines = end < 0 ? 1 : unit.getLineMap().getLineNumber(end) - first + 1;
            check.due("rule 11: lines of " + method + " are " + lines, lines <= 60, true);
            check.due("rule 11: parameters of " + method, tree.getParameters().size() <= 7, true);
            open.push(method);
            super.visitMethod(tree, v);
            open.pop();
            return null;
        }

        @Override public Void visitMethodInvocation(MethodInvocationTree tree, Void v) {
            called(tree);
            return super.visitMethodInvocation(tree, v);
        }

        @Override public Void visitNewClass(NewClassTree tree, Void v) {
            called(tree);
            if (tree.getClassBody() != null) {
                not("an anonymous class", tree);
            }
            return super.visitNewClass(tree, v);
        }

        private void called(Tree tree) {
            ExecutableElement method = (ExecutableElement) element();
            TypeElement owner = (TypeElement) method.getEnclosingElement();
            if (owner.getQualifiedName().toString().startsWith("CoinsLaid")) {
                if (!open.isEmpty()) {
                    calls.get(open.peek()).add(method);
                }
            } else {
                String name = owner.getSimpleName() + "." + method.getSimpleName();
                check.due("line " + line(tree) + ": rule 4: " + name, LIBRARY_CALLS.contains(name), true);
            }
        }

        @Override public Void visitVariable(VariableTree tree, Void v) {
            judgeType(((VariableElement) element()).asType(), tree);
            return super.visitVariable(tree, v);
        }

        private void judgeType(TypeMirror type, Tree tree) {
            int depth = 0;
            TypeMirror inner = type;
            while (inner.getKind() == TypeKind.ARRAY) {
                inner = ((ArrayType) inner).getComponentType();
                depth++;
            }
            boolean own = inner.toString().startsWith("CoinsLaid");
            boolean library = LIBRARY.contains(inner.toString().replaceAll("<.*", ""));
            check.due("line " + line(tree) + ": rule 3: " + type, (inner.getKind().isPrimitive() || own || library)
                    && depth <= (inner.getKind().isPrimitive() ? 2 : 1), true);
        }

        @Override public Void visitImport(ImportTree tree, Void v) {
            check.due("rule 4: " + tree, LIBRARY.contains(tree.getQualifiedIdentifier().toString()), true);
            return super.visitImport(tree, v);
        }

        @Override public Void visitBinary(BinaryTree tree, Void v) {
            TypeMirror type = trees.getTypeMirror(getCurrentPath());
            check.due("line " + line(tree) + ": rule 10: no joining by +", !type.toString().equals("java.lang.String"), true);
            if (tree.getKind() == Tree.Kind.DIVIDE || tree.getKind() == Tree.Kind.REMAINDER) {
                judgeDivisor(tree);
            }
            return super.visitBinary(tree, v);
        }

        /** A constant that is not 0, or a name that the same method compares with 0. */
        private void judgeDivisor(BinaryTree tree) {
            String divisor = tree.getRightOperand().toString();
            TreePath path = getCurrentPath();
            while (!(path.getLeaf() instanceof MethodTree)) {
                path = path.getParentPath();
            }
            Object constant = null;
            Element element = trees.getElement(new TreePath(getCurrentPath(), tree.getRightOperand()));
            if (element instanceof VariableElement) {
                constant = ((VariableElement) element).getConstantValue();
            }
            boolean tested = path.getLeaf().toString().contains(divisor + " > 0");
            check.due("line " + line(tree) + ": rule 7: divisor " + divisor,
                    tested || constant instanceof Number && ((Number) constant).longValue() != 0, true);
        }

        @Override public Void visitThrow(ThrowTree tree, Void v) {
            check.due("line " + line(tree) + ": rule 6", open.peek().getSimpleName().contentEquals("led"), true);
            return super.visitThrow(tree, v);
        }

        @Override public Void visitLambdaExpression(LambdaExpressionTree tree, Void v) {
            not("a lambda", tree);
            return null;
        }

        @Override public Void visitMemberReference(MemberReferenceTree tree, Void v) {
            not("a method reference", tree);
            return null;
        }

        @Override public Void visitTry(TryTree tree, Void v) {
            not("a try", tree);
            return null;
        }

        @Override public Void visitAssert(AssertTree tree, Void v) {
            not("an assert", tree);
            return null;
        }

        @Override public Void visitSynchronized(SynchronizedTree tree, Void v) {
            not("a synchronized", tree);
            return null;
        }

        @Override public Void visitBlock(BlockTree tree, Void v) {
            if (tree.isStatic()) {
                not("a static initialiser block", tree);
            }
            return super.visitBlock(tree, v);
        }

        @Override public Void visitWhileLoop(WhileLoopTree tree, Void v) {
            check.due("line " + line(tree) + ": rule 9", tree.getCondition().toString().contains(" < "), true);
            return super.visitWhileLoop(tree, v);
        }

        @Override public Void visitDoWhileLoop(DoWhileLoopTree tree, Void v) {
            not("rule 9: a do loop", tree);
            return null;
        }

        @Override public Void visitForLoop(ForLoopTree tree, Void v) {
            check.due("line " + line(tree) + ": rule 9: a for with a bound",
                    tree.getCondition() != null && tree.getCondition().toString().matches(".*[<>].*"), true);
            return super.visitForLoop(tree, v);
        }

        @Override public Void visitEnhancedForLoop(EnhancedForLoopTree tree, Void v) {
            TypeMirror over = trees.getTypeMirror(new TreePath(getCurrentPath(), tree.getExpression()));
            check.due("line " + line(tree) + ": rule 12: no iterator", over.getKind() == TypeKind.ARRAY, true);
            return super.visitEnhancedForLoop(tree, v);
        }

        void judgeClasses() {
            check.due("rule 11: classes are " + classes, classes <= 12, true);
            for (ExecutableElement method : methods.keySet()) {
                String name = method.getSimpleName().toString();
                boolean isFace = method.getModifiers().contains(Modifier.PUBLIC);
                check.due("rule 1: a name of the face: " + method.getEnclosingElement() + "." + name,
                        isFace || !face.contains(name), true);
                check.due("rule 6: " + name, !Set.of("equals", "hashCode", "toString").contains(name), true);
            }
        }

        void judgeDepth() {
            for (ExecutableElement method : methods.keySet()) {
                if (method.getModifiers().contains(Modifier.PUBLIC)) {
                    int depth = depth(method, new HashSet<>());
                    check.due("rule 11: calls of " + method + " go " + depth + " deep", depth <= 8, true);
                }
                Set<ExecutableElement> called = calls.get(method);
                check.due("rule 8: " + method + " calls itself and is no private static method",
                        !called.contains(method) || method.getModifiers().containsAll(Set.of(Modifier.PRIVATE, Modifier.STATIC)), true);
            }
        }

        /** Calls that are a recursion are not counted twice. */
        private int depth(ExecutableElement method, Set<ExecutableElement> above) {
            int deepest = 0;
            above.add(method);
            for (ExecutableElement called : calls.getOrDefault(method, Set.of())) {
                if (!above.contains(called)) {
                    deepest = Math.max(deepest, depth(called, above));
                }
            }
            above.remove(method);
            return deepest + 1;
        }
    }
}
