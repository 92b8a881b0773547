import com.sun.source.tree.AssertTree;
import com.sun.source.tree.BinaryTree;
import com.sun.source.tree.BlockTree;
import com.sun.source.tree.CatchTree;
import com.sun.source.tree.ClassTree;
import com.sun.source.tree.CompilationUnitTree;
import com.sun.source.tree.CompoundAssignmentTree;
import com.sun.source.tree.DoWhileLoopTree;
import com.sun.source.tree.ExpressionTree;
import com.sun.source.tree.ForLoopTree;
import com.sun.source.tree.ImportTree;
import com.sun.source.tree.LambdaExpressionTree;
import com.sun.source.tree.LiteralTree;
import com.sun.source.tree.MemberReferenceTree;
import com.sun.source.tree.MethodInvocationTree;
import com.sun.source.tree.MethodTree;
import com.sun.source.tree.NewArrayTree;
import com.sun.source.tree.NewClassTree;
import com.sun.source.tree.ParenthesizedTree;
import com.sun.source.tree.SynchronizedTree;
import com.sun.source.tree.ThrowTree;
import com.sun.source.tree.Tree;
import com.sun.source.tree.TryTree;
import com.sun.source.tree.VariableTree;
import com.sun.source.tree.WhileLoopTree;
import com.sun.source.util.JavacTask;
import com.sun.source.util.TreePath;
import com.sun.source.util.TreePathScanner;
import com.sun.source.util.Trees;
import java.io.IOException;
import java.nio.file.Path;
import java.util.ArrayList;
import java.util.LinkedHashMap;
import java.util.LinkedHashSet;
import java.util.List;
import java.util.Map;
import java.util.Set;
import javax.lang.model.element.Element;
import javax.lang.model.element.ElementKind;
import javax.lang.model.element.ExecutableElement;
import javax.lang.model.element.Modifier;
import javax.lang.model.element.NestingKind;
import javax.lang.model.element.TypeElement;
import javax.lang.model.type.ArrayType;
import javax.lang.model.type.TypeKind;
import javax.lang.model.type.TypeMirror;
import javax.tools.JavaCompiler;
import javax.tools.StandardJavaFileManager;
import javax.tools.ToolProvider;

/**
 * The program keeps to ../shared/LANGUAGE.md, as far as its source shows; each line says the rule's number. What the
 * rules allow, but the program has no need of (lists, records, enums), is not allowed here either.
 */
public final class LanguageTest {
    private static final Check CHECK = new Check();
    private static final String MAIN = "src/main/java/NumbersInherited.java";
    private static final String CLASS = "NumbersInherited";

    /** With a file's name it looks at that one. */
    public static void main(String[] args) throws IOException {
        JavaCompiler compiler = ToolProvider.getSystemJavaCompiler();
        try (StandardJavaFileManager files = compiler.getStandardFileManager(null, null, null)) {
            Path path = Path.of(args.length > 0 ? args[0] : MAIN);
            JavacTask task = (JavacTask) compiler.getTask(null, files, null, List.of("-proc:none"), null,
                files.getJavaFileObjects(path));
            Iterable<? extends CompilationUnitTree> units = task.parse();
            task.analyze();
            for (CompilationUnitTree unit : units) {
                look(unit, Trees.instance(task));
            }
        }
        CHECK.close();
    }

    private static void look(CompilationUnitTree unit, Trees trees) {
        CHECK.isSo("1: no package line", unit.getPackageName() == null);
        CHECK.isSo("1: one class, and others inside it", unit.getTypeDecls().size() == 1);
        Source source = new Source(trees);
        source.scan(unit, null);
        source.calls.check();
        CHECK.isSo("11: " + source.classes + " classes, twelve at most", source.classes <= 12);
    }

    /** Who calls whom in the program. */
    private static final class Calls {
        private static final int MOST_DEEP = 8;

        private final Map<Element, Set<Element>> calls = new LinkedHashMap<>();

        void add(Element from, Element to) {
            calls.computeIfAbsent(from, f -> new LinkedHashSet<>()).add(to);
        }

        private Set<Element> from(Element one) {
            return calls.getOrDefault(one, Set.of());
        }

        private Set<Element> reach(Element one) {
            Set<Element> seen = new LinkedHashSet<>();
            List<Element> open = new ArrayList<>(from(one));
            while (!open.isEmpty()) {
                Element next = open.remove(open.size() - 1);
                if (seen.add(next)) {
                    open.addAll(from(next));
                }
            }
            return seen;
        }

        /** The longest row of calls from one on; those that call one another count as one. */
        private List<Element> deepest(Element one) {
            Set<Element> ring = new LinkedHashSet<>(Set.of(one));
            for (Element to : reach(one)) {
                if (reach(to).contains(one)) {
                    ring.add(to);
                }
            }
            List<Element> best = List.of();
            for (Element member : ring) {
                for (Element to : from(member)) {
                    List<Element> row = ring.contains(to) ? List.of() : deepest(to);
                    best = row.size() > best.size() ? row : best;
                }
            }
            List<Element> row = new ArrayList<>(List.of(one));
            row.addAll(best);
            return row;
        }

        void check() {
            for (Element one : calls.keySet()) {
                List<Element> row = deepest(one);
                CHECK.isSo("11: " + row.size() + " deep, eight at most: " + row, row.size() <= MOST_DEEP);
                if (reach(one).contains(one)) {
                    CHECK.isSo("8: recursion is private: " + one, one.getModifiers().contains(Modifier.PRIVATE));
                    CHECK.isSo("8: recursion is told how deep it is: " + one, ((ExecutableElement) one).getParameters()
                        .stream().anyMatch(p -> p.asType().getKind() == TypeKind.INT));
                }
            }
        }
    }

    private static final class Source extends TreePathScanner<Void, Void> {
        private static final Set<String> LIBRARY = Set.of("java.lang.Integer.bitCount(int)",
            "java.lang.Math.max(int,int)", "java.lang.Math.min(int,int)", "java.lang.String.charAt(int)",
            "java.lang.String.indexOf(int)", "java.lang.String.length()", "java.lang.Object.Object()",
            "java.lang.System.arraycopy(java.lang.Object,int,java.lang.Object,int,int)");
        private static final Set<TypeKind> BASIC = Set.of(TypeKind.INT, TypeKind.LONG, TypeKind.SHORT, TypeKind.BYTE,
            TypeKind.CHAR, TypeKind.BOOLEAN);
        private static final Set<TypeKind> NUMERIC = Set.of(TypeKind.INT, TypeKind.LONG, TypeKind.SHORT,
            TypeKind.BYTE, TypeKind.CHAR);
        private static final Set<Tree.Kind> COMPARED = Set.of(Tree.Kind.LESS_THAN, Tree.Kind.LESS_THAN_EQUAL,
            Tree.Kind.GREATER_THAN, Tree.Kind.GREATER_THAN_EQUAL);

        private final Calls calls = new Calls();
        private final Trees trees;
        private int classes;

        Source(Trees newTrees) {
            trees = newTrees;
        }

        private void never(String rule, Tree tree) {
            CHECK.isSo(rule + ", but: " + tree, false);
        }

        private Element here() {
            return trees.getElement(getCurrentPath());
        }

        private TypeMirror typeOf(Tree tree) {
            return trees.getTypeMirror(new TreePath(getCurrentPath(), tree));
        }

        private static boolean isOwn(Element element) {
            return element.toString().startsWith(CLASS) || element.getEnclosingElement().toString().startsWith(CLASS);
        }

        private static boolean isText(TypeMirror type) {
            return type.toString().equals("java.lang.String");
        }

        // ---- 1, 2, 5, 11: classes, methods, fields

        @Override
        public Void visitClass(ClassTree tree, Void p) {
            classes++;
            TypeElement type = (TypeElement) here();
            CHECK.isSo("2: a class of the file or static inside one: " + type,
                type.getNestingKind() == NestingKind.TOP_LEVEL
                    || type.getNestingKind() == NestingKind.MEMBER && type.getModifiers().contains(Modifier.STATIC));
            CHECK.isSo("2: a class, no record, enum or interface: " + type, type.getKind() == ElementKind.CLASS);
            long fields = type.getEnclosedElements().stream()
                .filter(e -> e.getKind() == ElementKind.FIELD && !e.getModifiers().contains(Modifier.STATIC)).count();
            CHECK.isSo("11: " + fields + " fields of " + type + ", twenty at most", fields <= 20);
            for (Tree member : tree.getMembers()) {
                CHECK.isSo("5: no initialiser block in " + type, !(member instanceof BlockTree));
            }
            return super.visitClass(tree, p);
        }

        @Override
        public Void visitMethod(MethodTree tree, Void p) {
            CHECK.isSo("11: parameters of " + tree.getName(), tree.getParameters().size() <= 7);
            CHECK.isSo("6: no throws: " + tree.getName(), tree.getThrows().isEmpty());
            CHECK.isSo("6: none of an object's: " + tree.getName(),
                !Set.of("equals", "hashCode", "toString").contains(tree.getName().toString()));
            if (tree.getReturnType() != null) {
                allowed("what " + tree.getName() + " answers", typeOf(tree.getReturnType()));
            }
            CHECK.isSo("11: a method of sixty lines at most: " + tree.getName(),
                tree.toString().split("\n").length <= 60);
            return super.visitMethod(tree, p);
        }

        @Override
        public Void visitVariable(VariableTree tree, Void p) {
            Element variable = here();
            allowed(tree.getName().toString(), variable.asType());
            CHECK.isSo("2: its type is written out: " + tree.getName(), tree.getType() != null);
            if (variable.getModifiers().contains(Modifier.STATIC)) {
                CHECK.isSo("5: static ones are final: " + variable, variable.getModifiers().contains(Modifier.FINAL));
                CHECK.isSo("5: static ones are constants: " + variable, BASIC.contains(variable.asType().getKind())
                    || isText(variable.asType()));
            }
            return super.visitVariable(tree, p);
        }

        // ---- 3: types

        private void allowed(String what, TypeMirror type) {
            TypeMirror item = type;
            int dimensions = 0;
            while (item.getKind() == TypeKind.ARRAY) {
                item = ((ArrayType) item).getComponentType();
                dimensions++;
            }
            boolean isBasic = BASIC.contains(item.getKind()) || item.getKind() == TypeKind.VOID;
            boolean isOwn = item.toString().startsWith(CLASS);
            CHECK.isSo("3: " + type + " of " + what, switch (dimensions) {
                case 0 -> isBasic || isOwn || isText(item);
                case 1 -> isBasic || isOwn;
                default -> dimensions == 2 && NUMERIC.contains(item.getKind());
            });
        }

        // ---- 4, 7, 12, 13: calls, and what is made

        @Override
        public Void visitMethodInvocation(MethodInvocationTree tree, Void p) {
            call(here());
            return super.visitMethodInvocation(tree, p);
        }

        @Override
        public Void visitNewClass(NewClassTree tree, Void p) {
            CHECK.isSo("2: no anonymous class: " + tree, tree.getClassBody() == null);
            made(tree);
            call(here());
            return super.visitNewClass(tree, p);
        }

        @Override
        public Void visitNewArray(NewArrayTree tree, Void p) {
            made(tree);
            return super.visitNewArray(tree, p);
        }

        /** Rows are made in constructors and used again, so that no call makes an object. */
        private void made(Tree tree) {
            ElementKind kind = caller().getKind();
            CHECK.isSo("12: made in a constructor: " + tree, kind == ElementKind.CONSTRUCTOR);
        }

        private void call(Element to) {
            CHECK.isSo("4: of the library: " + to.getEnclosingElement() + "." + to,
                isOwn(to) || LIBRARY.contains(to.getEnclosingElement() + "." + to));
            if (isOwn(to)) {
                calls.add(caller(), to);
            }
        }

        /** The method at hand; what stands outside of all of them is a constructor's. */
        private Element caller() {
            for (TreePath path = getCurrentPath(); path != null; path = path.getParentPath()) {
                if (path.getLeaf() instanceof MethodTree) {
                    return trees.getElement(path);
                }
                if (path.getLeaf() instanceof ClassTree) {
                    return trees.getElement(path).getEnclosedElements().stream()
                        .filter(e -> e.getKind() == ElementKind.CONSTRUCTOR).findFirst().orElseThrow();
                }
            }
            throw new IllegalStateException("a call outside of all classes");
        }

        @Override
        public Void visitImport(ImportTree tree, Void p) {
            never("4: no library by import", tree);
            return null;
        }

        @Override
        public Void visitLiteral(LiteralTree tree, Void p) {
            String signs = tree.getValue() instanceof String s ? s
                : tree.getValue() instanceof Character c ? c.toString() : "";
            CHECK.isSo("4: signs 1 to 127: " + tree, signs.chars().allMatch(c -> c >= 1 && c <= 127));
            return super.visitLiteral(tree, p);
        }

        // ---- 6, 10: what stands in none of its lines

        @Override
        public Void visitBinary(BinaryTree tree, Void p) {
            boolean isTextual = isText(typeOf(tree.getLeftOperand())) || isText(typeOf(tree.getRightOperand()));
            CHECK.isSo("6, 10: no + or == of texts: " + tree, !isTextual);
            return super.visitBinary(tree, p);
        }

        @Override
        public Void visitCompoundAssignment(CompoundAssignmentTree tree, Void p) {
            CHECK.isSo("10: no += of texts: " + tree, !isText(typeOf(tree.getVariable())));
            return super.visitCompoundAssignment(tree, p);
        }

        @Override
        public Void visitLambdaExpression(LambdaExpressionTree tree, Void p) {
            never("2: no lambda", tree);
            return null;
        }

        @Override
        public Void visitMemberReference(MemberReferenceTree tree, Void p) {
            never("2: no method reference", tree);
            return null;
        }

        @Override
        public Void visitThrow(ThrowTree tree, Void p) {
            never("6: no throw", tree);
            return null;
        }

        @Override
        public Void visitTry(TryTree tree, Void p) {
            never("6: no try", tree);
            return null;
        }

        @Override
        public Void visitCatch(CatchTree tree, Void p) {
            never("6: no catch", tree);
            return null;
        }

        @Override
        public Void visitSynchronized(SynchronizedTree tree, Void p) {
            never("6: no synchronized", tree);
            return null;
        }

        @Override
        public Void visitAssert(AssertTree tree, Void p) {
            never("6: no assert", tree);
            return null;
        }

        // ---- 9: every loop has its bound in its own lines

        @Override
        public Void visitForLoop(ForLoopTree tree, Void p) {
            bounded(tree, tree.getCondition());
            return super.visitForLoop(tree, p);
        }

        @Override
        public Void visitWhileLoop(WhileLoopTree tree, Void p) {
            bounded(tree, tree.getCondition());
            return super.visitWhileLoop(tree, p);
        }

        @Override
        public Void visitDoWhileLoop(DoWhileLoopTree tree, Void p) {
            bounded(tree, tree.getCondition());
            return super.visitDoWhileLoop(tree, p);
        }

        private static void bounded(Tree loop, ExpressionTree condition) {
            ExpressionTree part = condition;
            while (part instanceof ParenthesizedTree inner) {
                part = inner.getExpression();
            }
            while (part != null && part.getKind() == Tree.Kind.CONDITIONAL_AND) {
                part = ((BinaryTree) part).getLeftOperand();
            }
            CHECK.isSo("9: a counter against a bound first: " + loop,
                part != null && COMPARED.contains(part.getKind()));
        }
    }
}
