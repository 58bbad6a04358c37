import com.sun.source.tree.AssertTree;
import com.sun.source.tree.AssignmentTree;
import com.sun.source.tree.BinaryTree;
import com.sun.source.tree.BlockTree;
import com.sun.source.tree.CatchTree;
import com.sun.source.tree.ClassTree;
import com.sun.source.tree.CompilationUnitTree;
import com.sun.source.tree.CompoundAssignmentTree;
import com.sun.source.tree.ArrayAccessTree;
import com.sun.source.tree.ExpressionTree;
import com.sun.source.tree.ImportTree;
import com.sun.source.tree.LambdaExpressionTree;
import com.sun.source.tree.LiteralTree;
import com.sun.source.tree.MemberReferenceTree;
import com.sun.source.tree.MethodInvocationTree;
import com.sun.source.tree.MethodTree;
import com.sun.source.tree.NewArrayTree;
import com.sun.source.tree.NewClassTree;
import com.sun.source.tree.SynchronizedTree;
import com.sun.source.tree.ThrowTree;
import com.sun.source.tree.Tree;
import com.sun.source.tree.TryTree;
import com.sun.source.tree.TypeCastTree;
import com.sun.source.tree.UnaryTree;
import com.sun.source.tree.VariableTree;
import com.sun.source.util.JavacTask;
import com.sun.source.util.TreePath;
import com.sun.source.util.TreePathScanner;
import com.sun.source.util.Trees;
import java.io.File;
import java.util.List;
import java.util.Set;
import java.util.TreeSet;
import javax.lang.model.element.Element;
import javax.lang.model.element.ElementKind;
import javax.lang.model.element.Modifier;
import javax.lang.model.element.VariableElement;
import javax.lang.model.type.ArrayType;
import javax.lang.model.type.TypeKind;
import javax.lang.model.type.TypeMirror;
import javax.tools.JavaCompiler;
import javax.tools.StandardJavaFileManager;
import javax.tools.ToolProvider;

/**
 * The rules of ../shared/LANGUAGE.md, by their numbers, as the compiler sees the source. (The face is FaceTest's,
 * how deep calls go is DepthTest's.) Another source can be named as argument, to see what this test finds in it.
 */
public final class LanguageTest {
    private static final String MAIN = "src/main/java/NeverBelieved.java";
    private static final Set<String> FACE = Set.of("write", "erase", "fault", "city", "fact", "one", "cause", "belief", "as", "sayingAs",
        "so", "say", "night", "undo", "keep", "back", "coming", "best", "empty", "said", "rests", "bet", "call", "sure", "plan",
        "sieges", "count");
    /** Of rule 4 what the program uses; who uses more of what the rule lists puts it here. */
    private static final Set<String> LIBRARY = Set.of("java.lang.String.length()", "java.lang.String.charAt(int)",
        "java.lang.System.arraycopy(java.lang.Object,int,java.lang.Object,int,int)", "java.lang.Math.max(int,int)",
        "java.lang.Math.min(int,int)", "java.lang.Integer.bitCount(int)");
    private static final Set<String> FOUND = new TreeSet<>();

    private static final class Reader extends TreePathScanner<Void, Trees> {
        private final CompilationUnitTree unit;
        private MethodTree method;
        private int classes;

        Reader(CompilationUnitTree unit) {
            this.unit = unit;
        }

        private void check(boolean fine, int rule, Tree tree, Trees trees, String what) {
            if (fine) return;
            long at = trees.getSourcePositions().getStartPosition(unit, tree);
            FOUND.add("rule " + rule + ", line " + unit.getLineMap().getLineNumber(Math.max(at, 0)) + ": " + what);
        }

        private Void never(int rule, Tree tree, Trees trees) {
            check(false, rule, tree, trees, tree.getKind() + "");
            return null;
        }

        // ---- what is not there at all

        @Override public Void visitImport(ImportTree tree, Trees trees) { return never(4, tree, trees); }
        @Override public Void visitLambdaExpression(LambdaExpressionTree tree, Trees trees) { return never(2, tree, trees); }
        @Override public Void visitMemberReference(MemberReferenceTree tree, Trees trees) { return never(2, tree, trees); }
        @Override public Void visitThrow(ThrowTree tree, Trees trees) { return never(6, tree, trees); }
        @Override public Void visitTry(TryTree tree, Trees trees) { return never(6, tree, trees); }
        @Override public Void visitCatch(CatchTree tree, Trees trees) { return never(6, tree, trees); }
        @Override public Void visitSynchronized(SynchronizedTree tree, Trees trees) { return never(6, tree, trees); }
        @Override public Void visitAssert(AssertTree tree, Trees trees) { return never(6, tree, trees); }

        // ---- classes, methods, fields

        private boolean inClass() {
            return getCurrentPath().getParentPath().getLeaf() instanceof ClassTree;
        }

        @Override public Void visitClass(ClassTree tree, Trees trees) {
            boolean outer = getCurrentPath().getParentPath().getLeaf() instanceof CompilationUnitTree;
            Set<Modifier> flags = tree.getModifiers().getFlags();
            classes++;
            check(classes <= 12, 11, tree, trees, "too many classes");
            check(outer || inClass(), 2, tree, trees, "a local or anonymous class");
            check(outer || flags.contains(Modifier.STATIC), 2, tree, trees, tree.getSimpleName() + " is not static");
            check(outer || !flags.contains(Modifier.PUBLIC) && !flags.contains(Modifier.PROTECTED), 1, tree, trees, tree.getSimpleName() + " is public");
            check(!outer || flags.containsAll(Set.of(Modifier.PUBLIC, Modifier.FINAL)), 1, tree, trees, "the class is not public and final");
            int fields = 0;
            for (Tree member : tree.getMembers()) {
                if (member instanceof VariableTree v && !v.getModifiers().getFlags().contains(Modifier.STATIC)) fields++;
                check(!(member instanceof BlockTree b && b.isStatic()), 5, member, trees, "a static initialiser block");
            }
            check(fields <= 20, 11, tree, trees, tree.getSimpleName() + " has " + fields + " fields");
            return super.visitClass(tree, trees);
        }

        @Override public Void visitMethod(MethodTree tree, Trees trees) {
            String name = tree.getName().toString();
            Set<Modifier> flags = tree.getModifiers().getFlags();
            check(tree.getParameters().size() <= 7, 11, tree, trees, name + " takes too much");
            check(!Set.of("equals", "hashCode", "toString").contains(name), 6, tree, trees, name + " of its own");
            check(!FACE.contains(name) || flags.contains(Modifier.PUBLIC), 1, tree, trees, name + " bears a public name");
            long from = unit.getLineMap().getLineNumber(trees.getSourcePositions().getStartPosition(unit, tree));
            long to = unit.getLineMap().getLineNumber(trees.getSourcePositions().getEndPosition(unit, tree));
            check(to - from < 60, 11, tree, trees, name + " is too long");
            check(tree.getThrows().isEmpty(), 6, tree, trees, name + " throws");
            MethodTree around = method;
            method = tree;
            super.visitMethod(tree, trees);
            method = around;
            return null;
        }

        private static boolean isNumber(TypeMirror type) {
            return type.getKind().isPrimitive() && type.getKind() != TypeKind.BOOLEAN;
        }

        private static boolean isOwn(TypeMirror type) {
            return type.toString().equals("NeverBelieved") || type.toString().startsWith("NeverBelieved.");
        }

        /** Of rule 3 what the program uses: numbers, booleans, own classes, String; rows of these, rows of rows of numbers. */
        private static boolean isOfLanguage(TypeMirror type) {
            if (type instanceof ArrayType row && row.getComponentType() instanceof ArrayType inner) return isNumber(inner.getComponentType());
            if (type instanceof ArrayType row) return row.getComponentType().getKind().isPrimitive() || isOwn(row.getComponentType());
            return type.getKind().isPrimitive() || isOwn(type) || type.toString().equals("java.lang.String");
        }

        private static boolean isOfStatics(TypeMirror type) {
            if (type instanceof ArrayType row) {
                return Set.of(TypeKind.INT, TypeKind.LONG, TypeKind.CHAR, TypeKind.BYTE).contains(row.getComponentType().getKind());
            }
            return Set.of(TypeKind.INT, TypeKind.LONG, TypeKind.BOOLEAN, TypeKind.CHAR).contains(type.getKind())
                    || type.toString().equals("java.lang.String");
        }

        @Override public Void visitVariable(VariableTree tree, Trees trees) {
            TypeMirror type = trees.getElement(getCurrentPath()).asType();
            check(isOfLanguage(type), 3, tree, trees, tree.getName() + " is of type " + type);
            if (trees.getElement(getCurrentPath()).getModifiers().contains(Modifier.STATIC)) {
                check(tree.getModifiers().getFlags().contains(Modifier.FINAL), 5, tree, trees, tree.getName() + " is static, not final");
                check(isOfStatics(type), 5, tree, trees, tree.getName() + " is static, of type " + type);
                boolean writtenOut = type instanceof ArrayType ? tree.getInitializer() instanceof NewArrayTree row && row.getInitializers() != null
                        : ((VariableElement) trees.getElement(getCurrentPath())).getConstantValue() != null;
                check(writtenOut, 5, tree, trees, tree.getName() + " is not written out");
            }
            return super.visitVariable(tree, trees);
        }

        // ---- what is done

        /** A row of a static field is never changed (rule 5). */
        private void changed(ExpressionTree target, Trees trees) {
            ExpressionTree row = target;
            for (int n = 0; n < 3 && row instanceof ArrayAccessTree access; n++) row = access.getExpression();
            Element element = trees.getElement(new TreePath(getCurrentPath(), row));
            boolean ofStatic = row != target && element != null && element.getModifiers().contains(Modifier.STATIC);
            check(!ofStatic, 5, target, trees, target + " changes a static row");
        }

        @Override public Void visitAssignment(AssignmentTree tree, Trees trees) {
            changed(tree.getVariable(), trees);
            return super.visitAssignment(tree, trees);
        }

        @Override public Void visitCompoundAssignment(CompoundAssignmentTree tree, Trees trees) {
            changed(tree.getVariable(), trees);
            boolean divides = tree.getKind() == Tree.Kind.DIVIDE_ASSIGNMENT || tree.getKind() == Tree.Kind.REMAINDER_ASSIGNMENT;
            if (divides) divisor(tree.getExpression(), trees);
            check(!isText(tree.getVariable(), trees), 10, tree, trees, "texts are joined by +=");
            return super.visitCompoundAssignment(tree, trees);
        }

        @Override public Void visitUnary(UnaryTree tree, Trees trees) {
            changed(tree.getExpression(), trees);
            return super.visitUnary(tree, trees);
        }

        private TypeMirror typeOf(ExpressionTree tree, Trees trees) {
            return trees.getTypeMirror(new TreePath(getCurrentPath(), tree));
        }

        private boolean isText(ExpressionTree tree, Trees trees) {
            TypeMirror type = typeOf(tree, trees);
            return type != null && type.toString().equals("java.lang.String");
        }

        private static boolean isConstant(ExpressionTree tree, Element element) {
            if (tree instanceof LiteralTree number) return number.getValue() instanceof Number n && n.longValue() != 0;
            return element instanceof VariableElement field && field.getConstantValue() instanceof Number n && n.longValue() != 0;
        }

        /** What divides is a constant other than 0, or the method looks at it first (rule 7). */
        private void divisor(ExpressionTree tree, Trees trees) {
            boolean safe = isConstant(tree, trees.getElement(new TreePath(getCurrentPath(), tree)))
                    || method != null && method.toString().contains("if (" + tree + " == 0)");
            check(safe, 7, tree, trees, tree + " divides, and may be 0");
        }

        @Override public Void visitBinary(BinaryTree tree, Trees trees) {
            Tree.Kind kind = tree.getKind();
            if (kind == Tree.Kind.DIVIDE || kind == Tree.Kind.REMAINDER) divisor(tree.getRightOperand(), trees);
            boolean texts = isText(tree.getLeftOperand(), trees) || isText(tree.getRightOperand(), trees);
            check(!texts || kind != Tree.Kind.PLUS, 10, tree, trees, "texts are joined by +");
            check(!texts || kind != Tree.Kind.EQUAL_TO && kind != Tree.Kind.NOT_EQUAL_TO, 6, tree, trees, "== of two texts");
            return super.visitBinary(tree, trees);
        }

        @Override public Void visitTypeCast(TypeCastTree tree, Trees trees) {
            check(typeOf(tree, trees).getKind().isPrimitive(), 6, tree, trees, "a cast among classes");
            return super.visitTypeCast(tree, trees);
        }

        @Override public Void visitMethodInvocation(MethodInvocationTree tree, Trees trees) {
            Element called = trees.getElement(getCurrentPath());
            String name = called.getEnclosingElement() + "." + called;
            boolean own = isOwn(called.getEnclosingElement().asType());
            // The constructor of Object is called by every constructor, unwritten.
            boolean unwritten = called.getKind() == ElementKind.CONSTRUCTOR;
            check(own || unwritten || LIBRARY.contains(name), 4, tree, trees, name);
            return super.visitMethodInvocation(tree, trees);
        }

        /** The room is one for all calls (rule 12): only constructors and fields make objects here, no call does. */
        private boolean inConstructor() {
            return method == null || method.getReturnType() == null;
        }

        @Override public Void visitNewClass(NewClassTree tree, Trees trees) {
            check(isOwn(typeOf(tree, trees)), 4, tree, trees, "new " + tree.getIdentifier());
            check(inConstructor(), 12, tree, trees, "a call makes an object");
            return super.visitNewClass(tree, trees);
        }

        @Override public Void visitNewArray(NewArrayTree tree, Trees trees) {
            check(inConstructor(), 12, tree, trees, "a call makes a row");
            return super.visitNewArray(tree, trees);
        }

        @Override public Void visitLiteral(LiteralTree tree, Trees trees) {
            if (tree.getValue() instanceof String text) {
                check(text.chars().allMatch(c -> c >= 1 && c <= 127), 4, tree, trees, "another sign in a text");
            }
            return super.visitLiteral(tree, trees);
        }
    }

    public static void main(String[] args) throws Exception {
        JavaCompiler compiler = ToolProvider.getSystemJavaCompiler();
        StandardJavaFileManager files = compiler.getStandardFileManager(null, null, null);
        JavacTask task = (JavacTask) compiler.getTask(null, files, null, List.of("-proc:none"), null,
                files.getJavaFileObjects(new File(args.length > 0 ? args[0] : MAIN)));
        Iterable<? extends CompilationUnitTree> units = task.parse();
        task.analyze();
        int read = 0;
        for (CompilationUnitTree unit : units) {
            if (!unit.getSourceFile().getCharContent(true).chars().allMatch(c -> c == '\n' || c >= 32 && c < 127)) {
                FOUND.add("the file has other signs than those of ASCII");
            }
            if (unit.getPackage() != null) FOUND.add("the file has a package line");
            if (unit.getTypeDecls().size() != 1) FOUND.add("rule 1: not one class alone");
            Reader reader = new Reader(unit);
            reader.scan(unit, Trees.instance(task));
            read += reader.classes;
        }
        for (String found : FOUND) System.out.println(found);
        System.out.println(read + " classes read by the rules of the language, " + FOUND.size() + " faults");
        if (!FOUND.isEmpty() || read == 0) System.exit(1);
    }
}
