import com.sun.source.tree.AnnotationTree;
import com.sun.source.tree.BinaryTree;
import com.sun.source.tree.ClassTree;
import com.sun.source.tree.CompilationUnitTree;
import com.sun.source.tree.CompoundAssignmentTree;
import com.sun.source.tree.DoWhileLoopTree;
import com.sun.source.tree.EnhancedForLoopTree;
import com.sun.source.tree.ExpressionTree;
import com.sun.source.tree.ForLoopTree;
import com.sun.source.tree.LiteralTree;
import com.sun.source.tree.MethodInvocationTree;
import com.sun.source.tree.MethodTree;
import com.sun.source.tree.NewArrayTree;
import com.sun.source.tree.NewClassTree;
import com.sun.source.tree.Tree;
import com.sun.source.tree.TypeCastTree;
import com.sun.source.tree.VariableTree;
import com.sun.source.tree.WhileLoopTree;
import com.sun.source.util.JavacTask;
import com.sun.source.util.TreePath;
import com.sun.source.util.TreePathScanner;
import com.sun.source.util.Trees;
import java.nio.file.Files;
import java.nio.file.Path;
import java.util.EnumSet;
import java.util.HashSet;
import java.util.LinkedHashMap;
import java.util.LinkedHashSet;
import java.util.Map;
import java.util.Set;
import javax.lang.model.element.Element;
import javax.lang.model.element.ElementKind;
import javax.lang.model.element.ExecutableElement;
import javax.lang.model.element.Modifier;
import javax.lang.model.element.TypeElement;
import javax.lang.model.element.VariableElement;
import javax.lang.model.type.ArrayType;
import javax.lang.model.type.TypeKind;
import javax.lang.model.type.TypeMirror;
import javax.tools.JavaCompiler;
import javax.tools.StandardJavaFileManager;
import javax.tools.ToolProvider;

/**
 * Those rules of ../shared/LANGUAGE.md that the source shows, by the compiler's own tree of it. It
 * is narrower than the rules where the class needs less than they leave: a rule that is needed then
 * may be widened here, up to what LANGUAGE.md says. A file may be named; else it is the class.
 */
public final class LanguageTest extends TreePathScanner<Void, Void> {
    private static final Checker check = new Checker();
    private static final int MOST_PARAMETERS = 7;
    private static final int MOST_LINES = 60;
    private static final int MOST_DEEP = 8;
    private static final int MOST_CLASSES = 12;
    private static final int MOST_FIELDS = 20;
    private static final Set<String> LIBRARY = Set.of(
        "System.arraycopy", "Math.min", "Math.max", "Integer.bitCount");
    /** Rules 2 and 6; and instanceof, which the class has no need of. */
    private static final Set<Tree.Kind> FORBIDDEN = EnumSet.of(Tree.Kind.THROW, Tree.Kind.TRY, Tree.Kind.CATCH,
        Tree.Kind.SYNCHRONIZED, Tree.Kind.ASSERT, Tree.Kind.LAMBDA_EXPRESSION, Tree.Kind.MEMBER_REFERENCE,
        Tree.Kind.INSTANCE_OF, Tree.Kind.IMPORT, Tree.Kind.PACKAGE);

    private final Trees trees;
    private final CompilationUnitTree unit;
    /** Each method and constructor, with those of the file that it calls. */
    private final Map<Element, Set<Element>> calls = new LinkedHashMap<>();
    private Element caller = null;
    private int classes = 0;

    private LanguageTest(Trees trees, CompilationUnitTree unit) {
        this.trees = trees;
        this.unit = unit;
    }

    public static void main(String[] args) throws Exception {
        Path source = Path.of(args.length > 0 ? args[0] : "src/main/java/StyleTree.java");
        JavaCompiler compiler = ToolProvider.getSystemJavaCompiler();
        try (StandardJavaFileManager files = compiler.getStandardFileManager(null, null, null)) {
            JavacTask task = (JavacTask) compiler.getTask(
                null, files, null, null, null, files.getJavaFileObjects(source));
            CompilationUnitTree unit = task.parse().iterator().next();
            task.analyze();
            LanguageTest test = new LanguageTest(Trees.instance(task), unit);
            test.scan(unit, null);
            test.callsAreNotDeep();
            test.fine("the file has few classes", null, test.classes <= MOST_CLASSES);
            test.fine("one class at the top", null, unit.getTypeDecls().size() == 1);
        }
        for (byte letter : Files.readAllBytes(source)) {
            check.due("a letter beyond 127", 0, letter < 0 ? 1 : 0);
        }
        check.end();
    }

    private void fine(String rule, Tree where, boolean holds) {
        check.due(rule + (where == null ? "" : ", line " + line(where) + ": " + where), 1, holds ? 1 : 0);
    }

    private long line(Tree tree) {
        return unit.getLineMap().getLineNumber(trees.getSourcePositions().getStartPosition(unit, tree));
    }

    private long lines(Tree tree) {
        long end = trees.getSourcePositions().getEndPosition(unit, tree);
        return unit.getLineMap().getLineNumber(end) - line(tree) + 1;
    }

    private TypeMirror typeOf(Tree tree) {
        return trees.getTypeMirror(new TreePath(getCurrentPath(), tree));
    }

    private boolean isOurs(Element element) {
        for (Element e = element; e != null; e = e.getEnclosingElement()) {
            if (e.getKind().isClass() && e.getSimpleName().contentEquals("StyleTree")) {
                return true;
            }
        }
        return false;
    }

    // ---- rules 2 and 6: what may not stand there at all

    @Override
    public Void scan(Tree tree, Void none) {
        if (tree != null) {
            fine("rules 2, 6: " + tree.getKind(), tree, !FORBIDDEN.contains(tree.getKind()));
        }
        return super.scan(tree, none);
    }

    @Override
    public Void visitAnnotation(AnnotationTree annotation, Void none) {
        fine("no annotation", annotation, false);
        return null;
    }

    // ---- rules 1, 2, 11: classes

    @Override
    public Void visitClass(ClassTree tree, Void none) {
        classes++;
        Element element = trees.getElement(getCurrentPath());
        boolean nested = element.getEnclosingElement() instanceof TypeElement;
        if (nested) {
            fine("rule 2: a class inside is static", tree, element.getModifiers().contains(Modifier.STATIC));
        } else {
            boolean top = element.getEnclosingElement().getKind() == ElementKind.PACKAGE;
            fine("rule 2: no local or anonymous class", tree, top);
            fine("rule 1: the class of the document", null, tree.getSimpleName().contentEquals("StyleTree"));
        }
        int fields = 0;
        for (Tree member : tree.getMembers()) {
            fine("rules 2, 5: no initialiser block", member, member.getKind() != Tree.Kind.BLOCK);
            if (member instanceof VariableTree field) {
                fields += field.getModifiers().getFlags().contains(Modifier.STATIC) ? 0 : 1;
            }
        }
        fine("rule 11: fields of " + tree.getSimpleName(), null, fields <= MOST_FIELDS);
        return super.visitClass(tree, none);
    }

    // ---- rules 1, 6, 8, 11: methods

    @Override
    public Void visitMethod(MethodTree tree, Void none) {
        ExecutableElement element = (ExecutableElement) trees.getElement(getCurrentPath());
        boolean isPublic = element.getModifiers().contains(Modifier.PUBLIC);
        fine("rule 11: parameters", tree, tree.getParameters().size() <= MOST_PARAMETERS);
        fine("rule 11: lines", tree, lines(tree) <= MOST_LINES);
        fine("rule 6: throws nothing", tree, tree.getThrows().isEmpty());
        fine("rule 3: what it answers", tree, isKnown(element.getReturnType()));
        String name = element.getSimpleName().toString();
        fine("rule 6: none of Object's", tree, !Set.of("equals", "hashCode", "toString").contains(name));
        fine("rule 1: the name of a public one", tree, isPublic || !FaceTest.names().contains(name));
        calls.putIfAbsent(element, new LinkedHashSet<>());
        caller = element;
        super.visitMethod(tree, none);
        caller = null;
        return null;
    }

    @Override
    public Void visitMethodInvocation(MethodInvocationTree tree, Void none) {
        Element called = trees.getElement(getCurrentPath());
        if (isOurs(called)) {
            noteCall(called);
        } else if (called.getKind() == ElementKind.METHOD) {
            String name = called.getEnclosingElement().getSimpleName() + "." + called.getSimpleName();
            fine("rule 4: the library, " + name, tree, LIBRARY.contains(name));
        }
        return super.visitMethodInvocation(tree, none);
    }

    private void noteCall(Element called) {
        if (caller != null) {
            calls.get(caller).add(called);
        }
    }

    private void callsAreNotDeep() {
        for (Element method : calls.keySet()) {
            int deep = depth(method, new HashSet<>());
            fine("rules 8, 11: " + method + " goes " + deep + " deep", null, deep <= MOST_DEEP);
        }
    }

    /** How many calls stand open at most, this one too; a recursion counts as far too many. */
    private int depth(Element method, Set<Element> open) {
        if (!open.add(method)) {
            return 1000;
        }
        int most = 0;
        for (Element called : calls.getOrDefault(method, Set.of())) {
            most = Math.max(most, depth(called, open));
        }
        open.remove(method);
        return most + 1;
    }

    // ---- rules 3, 5, 10: fields, variables, values

    private boolean isKnown(TypeMirror type) {
        if (type instanceof ArrayType array) {
            return array.getComponentType().getKind() != TypeKind.ARRAY && isKnown(array.getComponentType());
        }
        switch (type.getKind()) {
            case INT, CHAR, BOOLEAN, VOID:
                return true;
            default:
                return type.toString().startsWith("StyleTree");
        }
    }

    @Override
    public Void visitVariable(VariableTree tree, Void none) {
        VariableElement element = (VariableElement) trees.getElement(getCurrentPath());
        fine("rule 3: types", tree, isKnown(element.asType()));
        if (element.getModifiers().contains(Modifier.STATIC)) {
            fine("rule 5: static ones are constants", tree, element.getConstantValue() != null);
        }
        return super.visitVariable(tree, none);
    }

    @Override
    public Void visitLiteral(LiteralTree tree, Void none) {
        fine("no text, no null: the class needs none", tree, tree.getKind() != Tree.Kind.STRING_LITERAL
            && tree.getKind() != Tree.Kind.NULL_LITERAL);
        return null;
    }

    @Override
    public Void visitBinary(BinaryTree tree, Void none) {
        fine("rules 6, 10: numbers alone", tree, typeOf(tree.getLeftOperand()).getKind().isPrimitive()
            && typeOf(tree.getRightOperand()).getKind().isPrimitive());
        if (tree.getKind() == Tree.Kind.DIVIDE || tree.getKind() == Tree.Kind.REMAINDER) {
            divisorIsConstant(tree.getRightOperand());
        }
        return super.visitBinary(tree, none);
    }

    @Override
    public Void visitCompoundAssignment(CompoundAssignmentTree tree, Void none) {
        if (tree.getKind() == Tree.Kind.DIVIDE_ASSIGNMENT || tree.getKind() == Tree.Kind.REMAINDER_ASSIGNMENT) {
            divisorIsConstant(tree.getExpression());
        }
        return super.visitCompoundAssignment(tree, none);
    }

    private void divisorIsConstant(ExpressionTree divisor) {
        Element element = trees.getElement(new TreePath(getCurrentPath(), divisor));
        boolean constant = element instanceof VariableElement v && v.getConstantValue() instanceof Integer i && i != 0;
        fine("rule 7: a divisor that can't be 0", divisor, constant);
    }

    @Override
    public Void visitTypeCast(TypeCastTree tree, Void none) {
        fine("rule 6: casts of numbers alone", tree, typeOf(tree.getType()).getKind().isPrimitive());
        return super.visitTypeCast(tree, none);
    }

    // ---- rule 9: loops

    private void hasBound(Tree loop, ExpressionTree condition) {
        boolean compares = condition != null && condition.toString().matches(".*\\w (<|<=|>|>=) .*");
        fine("rule 9: a counter against a bound", loop, compares);
    }

    @Override
    public Void visitForLoop(ForLoopTree tree, Void none) {
        hasBound(tree, tree.getCondition());
        fine("rule 9: a counter that is moved", tree, !tree.getUpdate().isEmpty());
        return super.visitForLoop(tree, none);
    }

    @Override
    public Void visitWhileLoop(WhileLoopTree tree, Void none) {
        hasBound(tree, tree.getCondition());
        return super.visitWhileLoop(tree, none);
    }

    @Override
    public Void visitDoWhileLoop(DoWhileLoopTree tree, Void none) {
        hasBound(tree, tree.getCondition());
        return super.visitDoWhileLoop(tree, none);
    }

    @Override
    public Void visitEnhancedForLoop(EnhancedForLoopTree tree, Void none) {
        fine("rule 12: over arrays alone", tree, typeOf(tree.getExpression()).getKind() == TypeKind.ARRAY);
        return super.visitEnhancedForLoop(tree, none);
    }

    // ---- rule 12: objects are made by constructors and fields alone, so no call fills the room

    private void isMadeOnce(Tree tree) {
        fine("rule 12: made by a call", tree, caller == null || caller.getKind() == ElementKind.CONSTRUCTOR);
    }

    @Override
    public Void visitNewClass(NewClassTree tree, Void none) {
        isMadeOnce(tree);
        Element constructor = trees.getElement(getCurrentPath());
        fine("rule 4: an own class", tree, isOurs(constructor));
        noteCall(constructor);
        return super.visitNewClass(tree, none);
    }

    @Override
    public Void visitNewArray(NewArrayTree tree, Void none) {
        isMadeOnce(tree);
        for (ExpressionTree length : tree.getDimensions()) {
            fine("rule 7: a length that is known", length, length.toString().matches("[A-Z_ *]+|0"));
        }
        return super.visitNewArray(tree, none);
    }
}
