import com.sun.source.tree.AssertTree;
import com.sun.source.tree.BinaryTree;
import com.sun.source.tree.BlockTree;
import com.sun.source.tree.ClassTree;
import com.sun.source.tree.CompilationUnitTree;
import com.sun.source.tree.CompoundAssignmentTree;
import com.sun.source.tree.DoWhileLoopTree;
import com.sun.source.tree.ExpressionTree;
import com.sun.source.tree.ForLoopTree;
import com.sun.source.tree.IdentifierTree;
import com.sun.source.tree.ImportTree;
import com.sun.source.tree.InstanceOfTree;
import com.sun.source.tree.LambdaExpressionTree;
import com.sun.source.tree.LiteralTree;
import com.sun.source.tree.MemberReferenceTree;
import com.sun.source.tree.MemberSelectTree;
import com.sun.source.tree.MethodInvocationTree;
import com.sun.source.tree.MethodTree;
import com.sun.source.tree.NewArrayTree;
import com.sun.source.tree.NewClassTree;
import com.sun.source.tree.SwitchTree;
import com.sun.source.tree.SynchronizedTree;
import com.sun.source.tree.ThrowTree;
import com.sun.source.tree.Tree;
import com.sun.source.tree.TryTree;
import com.sun.source.tree.TypeCastTree;
import com.sun.source.tree.VariableTree;
import com.sun.source.tree.WhileLoopTree;
import com.sun.source.util.JavacTask;
import com.sun.source.util.TreePath;
import com.sun.source.util.TreePathScanner;
import com.sun.source.util.Trees;
import java.net.URI;
import java.util.ArrayList;
import java.util.List;
import java.util.Set;
import javax.lang.model.element.Element;
import javax.lang.model.element.ElementKind;
import javax.lang.model.element.ExecutableElement;
import javax.lang.model.element.Modifier;
import javax.lang.model.element.TypeElement;
import javax.lang.model.element.VariableElement;
import javax.lang.model.type.ArrayType;
import javax.lang.model.type.DeclaredType;
import javax.lang.model.type.TypeKind;
import javax.lang.model.type.TypeMirror;
import javax.tools.DiagnosticCollector;
import javax.tools.JavaFileObject;
import javax.tools.SimpleJavaFileObject;
import javax.tools.ToolProvider;

/**
 * Finds in a source what ../shared/LANGUAGE.md rules out, as far as it can be seen in the text: not whether the
 * machine throws (rule 7) and whether each loop ends (rule 9). It is stricter than the rules where the class has
 * needed no more so far: no lists, no generic classes, no try, no static arrays, and no object is made but in
 * constructors, initialisers and throw statements, as all calls live in one room.
 */
final class Language extends TreePathScanner<Void, Void> {
    private static final Set<String> IMPORTS = Set.of("java.util.Arrays", "java.util.NoSuchElementException");
    private static final Set<String> EXCEPTIONS = Set.of("IllegalStateException", "IllegalArgumentException",
            "IndexOutOfBoundsException", "ArithmeticException", "UnsupportedOperationException",
            "NoSuchElementException", "RuntimeException");
    private static final Set<String> CALLS = Set.of("Object.<init>()", "System.arraycopy(Object,int,Object,int,int)",
            "String.length()", "String.charAt(int)", "String.isEmpty()", "String.equals(Object)",
            "String.indexOf(int)", "String.substring(int)", "String.substring(int,int)", "String.toCharArray()",
            "String.<init>(char[])", "StringBuilder.<init>()", "StringBuilder.append(char)",
            "StringBuilder.append(String)", "StringBuilder.append(int)", "StringBuilder.charAt(int)",
            "StringBuilder.setCharAt(int,char)", "StringBuilder.setLength(int)", "StringBuilder.deleteCharAt(int)",
            "StringBuilder.reverse()", "StringBuilder.length()", "StringBuilder.toString()");
    private static final Set<TypeKind> CONSTANTS = Set.of(TypeKind.INT, TypeKind.LONG, TypeKind.BOOLEAN,
            TypeKind.CHAR);
    private static final int MOST_PARAMETERS = 7;
    private static final int MOST_LINES = 60;
    private static final int MOST_CLASSES = 12;
    private static final int MOST_FIELDS = 20;

    private final List<String> faults = new ArrayList<>();
    private final Calls calls = new Calls();
    private final Set<String> face;
    private final Trees trees;
    private final CompilationUnitTree unit;
    private int classes = 0;

    private Language(Set<String> face, Trees trees, CompilationUnitTree unit) {
        this.face = face;
        this.trees = trees;
        this.unit = unit;
    }

    /** What is found, each beginning with the number of the rule; the face is the names of the public methods. */
    static List<String> faultsOf(String source, Set<String> face) throws Exception {
        DiagnosticCollector<JavaFileObject> diagnostics = new DiagnosticCollector<>();
        JavacTask task = (JavacTask) ToolProvider.getSystemJavaCompiler().getTask(null, null, diagnostics,
                List.of("-proc:none", "--release", "17"), null, List.of(new Source(source)));
        CompilationUnitTree unit = task.parse().iterator().next();
        task.analyze();
        if (!diagnostics.getDiagnostics().isEmpty()) {
            return List.of("the source does not compile without a warning: " + diagnostics.getDiagnostics());
        }
        Language language = new Language(face, Trees.instance(task), unit);
        language.scan(unit, null);
        language.calls.faults().forEach(language.faults::add);
        return language.faults;
    }

    private static final class Source extends SimpleJavaFileObject {
        private final String text;

        Source(String text) {
            super(URI.create("string:///BalloonHarbour.java"), JavaFileObject.Kind.SOURCE);
            this.text = text;
        }

        @Override
        public CharSequence getCharContent(boolean ignoreEncodingErrors) {
            return text;
        }
    }

    private void allow(boolean fine, int rule, Tree at, String what) {
        if (!fine) {
            faults.add(rule + ": " + what + ", line " + lineOf(trees.getSourcePositions().getStartPosition(unit, at)));
        }
    }

    private long lineOf(long position) {
        return unit.getLineMap().getLineNumber(position);
    }

    private Element elementOf(Tree tree) {
        return trees.getElement(new TreePath(getCurrentPath(), tree));
    }

    private TypeMirror typeOf(Tree tree) {
        return trees.getTypeMirror(new TreePath(getCurrentPath(), tree));
    }

    private static boolean isOwn(Element element) {
        Element outermost = element;
        while (outermost.getEnclosingElement() != null && outermost.getKind() != ElementKind.PACKAGE
                && outermost.getEnclosingElement().getKind() != ElementKind.PACKAGE) {
            outermost = outermost.getEnclosingElement();
        }
        return outermost.getSimpleName().contentEquals("BalloonHarbour");
    }

    private static boolean isText(TypeMirror type) {
        return type != null && type.toString().equals("java.lang.String");
    }

    /** The nearest class or method around what is scanned. */
    private Tree around(boolean method) {
        for (Tree tree : getCurrentPath().getParentPath()) {
            if (tree instanceof ClassTree || method && tree instanceof MethodTree) {
                return tree;
            }
        }
        return unit;
    }

    private boolean isOutermost(Tree type) {
        return type instanceof ClassTree && ((ClassTree) type).getSimpleName().contentEquals("BalloonHarbour");
    }

    // ---- rules 1 and 2

    @Override
    public Void visitCompilationUnit(CompilationUnitTree tree, Void none) {
        allow(tree.getPackage() == null, 1, tree, "a package line");
        allow(tree.getTypeDecls().size() == 1, 1, tree, "not one class");
        return super.visitCompilationUnit(tree, none);
    }

    @Override
    public Void visitImport(ImportTree tree, Void none) {
        allow(IMPORTS.contains(tree.getQualifiedIdentifier().toString()) && !tree.isStatic(), 4, tree, "an import");
        return null;
    }

    @Override
    public Void visitClass(ClassTree tree, Void none) {
        Set<Modifier> modifiers = tree.getModifiers().getFlags();
        if (isOutermost(tree)) {
            allow(modifiers.equals(Set.of(Modifier.PUBLIC, Modifier.FINAL)), 1, tree, "not public and final");
        } else {
            boolean hidden = !modifiers.contains(Modifier.PUBLIC) && !modifiers.contains(Modifier.PROTECTED);
            allow(hidden && modifiers.contains(Modifier.STATIC), 1, tree, "a class inside that is not static, or seen");
            allow(getCurrentPath().getParentPath().getLeaf() instanceof ClassTree, 2, tree, "a class in a method");
        }
        allow(tree.getTypeParameters().isEmpty(), 3, tree, "a generic class");
        allow(tree.getExtendsClause() == null || isOwn(elementOf(tree.getExtendsClause())), 6, tree, "a class above");
        classes++;
        allow(classes <= MOST_CLASSES, 11, tree, "too many classes");
        allow(fieldsOf(tree) <= MOST_FIELDS, 11, tree, "too many fields");
        return super.visitClass(tree, none);
    }

    private static long fieldsOf(ClassTree tree) {
        return tree.getMembers().stream().filter(member -> member instanceof VariableTree
                && !((VariableTree) member).getModifiers().getFlags().contains(Modifier.STATIC)).count();
    }

    @Override
    public Void visitMethod(MethodTree tree, Void none) {
        Set<Modifier> modifiers = tree.getModifiers().getFlags();
        String name = tree.getName().toString();
        boolean outermost = isOutermost(around(false));
        boolean seen = modifiers.contains(Modifier.PUBLIC);
        if (outermost) {
            allow(seen == (face.contains(name) || name.equals("<init>")), 1, tree, "seen but not of the face");
            allow(seen || modifiers.contains(Modifier.PRIVATE), 1, tree, "neither private nor public");
        }
        allow(outermost && seen || !face.contains(name), 1, tree, "a name of the face");
        allow(!Set.of("equals", "hashCode", "toString").contains(name), 6, tree, "a method of Object");
        allow(!modifiers.contains(Modifier.SYNCHRONIZED), 6, tree, "synchronized");
        allow(tree.getParameters().size() <= MOST_PARAMETERS, 11, tree, "too many parameters");
        long end = trees.getSourcePositions().getEndPosition(unit, tree);
        long lines = end < 0 ? 0 : lineOf(end) - lineOf(trees.getSourcePositions().getStartPosition(unit, tree)) + 1;
        allow(lines <= MOST_LINES, 11, tree, "too long");
        if (tree.getReturnType() != null) {
            allowType(typeOf(tree.getReturnType()), tree);
        }
        calls.add((ExecutableElement) trees.getElement(getCurrentPath()));
        return super.visitMethod(tree, none);
    }

    @Override
    public Void visitLambdaExpression(LambdaExpressionTree tree, Void none) {
        allow(false, 2, tree, "a lambda");
        return null;
    }

    @Override
    public Void visitMemberReference(MemberReferenceTree tree, Void none) {
        allow(false, 2, tree, "a method reference");
        return null;
    }

    // ---- rules 3, 5 and 10: types, static fields, operators

    private void allowType(TypeMirror type, Tree at) {
        boolean fine = isPlain(type) || type.getKind() == TypeKind.VOID || isText(type)
                || type.toString().equals("java.lang.StringBuilder");
        if (type.getKind() == TypeKind.ARRAY) {
            TypeMirror part = ((ArrayType) type).getComponentType();
            boolean rows = part.getKind() == TypeKind.ARRAY;
            fine = rows ? ((ArrayType) part).getComponentType().getKind().isPrimitive() : isPlain(part);
        }
        allow(fine, 3, at, "the type " + type);
    }

    private boolean isPlain(TypeMirror type) {
        return type.getKind().isPrimitive()
                || type instanceof DeclaredType && isOwn(((DeclaredType) type).asElement());
    }

    @Override
    public Void visitVariable(VariableTree tree, Void none) {
        Set<Modifier> modifiers = tree.getModifiers().getFlags();
        TypeMirror type = trees.getElement(getCurrentPath()).asType();
        allowType(type, tree);
        if (modifiers.contains(Modifier.STATIC)) {
            boolean constant = modifiers.contains(Modifier.FINAL) && tree.getInitializer() != null
                    && (CONSTANTS.contains(type.getKind()) || isText(type));
            allow(constant, 5, tree, "static and no constant");
        }
        if (getCurrentPath().getParentPath().getLeaf() instanceof ClassTree && isOutermost(around(false))) {
            allow(modifiers.contains(Modifier.PRIVATE), 1, tree, "a field that is seen");
        }
        return super.visitVariable(tree, none);
    }

    @Override
    public Void visitBlock(BlockTree tree, Void none) {
        allow(!tree.isStatic(), 5, tree, "a static initialiser");
        return super.visitBlock(tree, none);
    }

    @Override
    public Void visitBinary(BinaryTree tree, Void none) {
        TypeMirror left = typeOf(tree.getLeftOperand());
        TypeMirror right = typeOf(tree.getRightOperand());
        if (tree.getKind() == Tree.Kind.PLUS) {
            allow(!isText(left) && !isText(right), 10, tree, "texts joined by +");
        }
        if (tree.getKind() == Tree.Kind.EQUAL_TO || tree.getKind() == Tree.Kind.NOT_EQUAL_TO) {
            allow(!isText(left) || !isText(right), 6, tree, "two texts compared by == or !=");
        }
        if (tree.getKind() == Tree.Kind.REMAINDER) {
            allow(!isFraction(left) && !isFraction(right), 3, tree, "% on doubles or floats");
        }
        return super.visitBinary(tree, none);
    }

    private static boolean isFraction(TypeMirror type) {
        return type.getKind() == TypeKind.DOUBLE || type.getKind() == TypeKind.FLOAT;
    }

    @Override
    public Void visitCompoundAssignment(CompoundAssignmentTree tree, Void none) {
        TypeMirror type = typeOf(tree.getVariable());
        allow(!isText(type), 10, tree, "texts joined by +=");
        allow(tree.getKind() != Tree.Kind.REMAINDER_ASSIGNMENT || !isFraction(type), 3, tree, "%= on a double or float");
        return super.visitCompoundAssignment(tree, none);
    }

    @Override
    public Void visitLiteral(LiteralTree tree, Void none) {
        if (tree.getValue() instanceof String) {
            boolean plain = ((String) tree.getValue()).chars().allMatch(sign -> sign >= 1 && sign <= 127);
            allow(plain, 4, tree, "a text with a sign outside 1 to 127");
        }
        if (tree.getValue() instanceof Character) {
            allow((Character) tree.getValue() <= 255, 3, tree, "a sign above 255");
        }
        return null;
    }

    @Override
    public Void visitSwitch(SwitchTree tree, Void none) {
        allow(!isText(typeOf(tree.getExpression())), 10, tree, "a switch on texts");
        return super.visitSwitch(tree, none);
    }

    @Override
    public Void visitTypeCast(TypeCastTree tree, Void none) {
        allow(typeOf(tree.getType()).getKind().isPrimitive(), 6, tree, "a cast of an object");
        return super.visitTypeCast(tree, none);
    }

    @Override
    public Void visitInstanceOf(InstanceOfTree tree, Void none) {
        allow(isPlain(typeOf(tree.getType())), 6, tree, "instanceof another class");
        return super.visitInstanceOf(tree, none);
    }

    // ---- rules 4, 8 and 12: calls and new objects

    @Override
    public Void visitMethodInvocation(MethodInvocationTree tree, Void none) {
        ExecutableElement called = (ExecutableElement) elementOf(tree.getMethodSelect());
        if (isOwn(called)) {
            call(called);
            Tree caller = around(true);
            boolean byConstructor = caller instanceof MethodTree && ((MethodTree) caller).getReturnType() == null;
            allow(!byConstructor, 12, tree, "a constructor calls a method");
        } else {
            allow(isOfLibrary(called), 4, tree, "the call " + signature(called));
        }
        return super.visitMethodInvocation(tree, none);
    }

    private void call(ExecutableElement called) {
        if (around(true) instanceof MethodTree) {
            Element caller = trees.getElement(trees.getPath(unit, around(true)));
            calls.add((ExecutableElement) caller, called);
        }
    }

    private static boolean isOfLibrary(ExecutableElement called) {
        String owner = called.getEnclosingElement().getSimpleName().toString();
        String name = called.getSimpleName().toString();
        if (Set.of("Math", "Integer", "Long").contains(owner)) {
            return called.getModifiers().contains(Modifier.STATIC) && !name.endsWith("Exact")
                    && isWhole(called.getReturnType())
                    && called.getParameters().stream().allMatch(parameter -> isWhole(parameter.asType()));
        }
        if (owner.equals("Arrays")) {
            return Set.of("fill", "copyOf", "copyOfRange").contains(name) && !signature(called).contains("Object");
        }
        return CALLS.contains(signature(called));
    }

    private static boolean isWhole(TypeMirror type) {
        return type.getKind() == TypeKind.INT || type.getKind() == TypeKind.LONG;
    }

    private static String signature(ExecutableElement called) {
        List<String> types = new ArrayList<>();
        called.getParameters().forEach(parameter -> types.add(parameter.asType().toString().replaceAll(".*\\.", "")));
        String owner = called.getEnclosingElement().getSimpleName().toString().replaceAll("^Abstract", "");
        return owner + "." + called.getSimpleName() + "(" + String.join(",", types) + ")";
    }

    @Override
    public Void visitNewClass(NewClassTree tree, Void none) {
        ExecutableElement made = (ExecutableElement) trees.getElement(getCurrentPath());
        boolean thrown = getCurrentPath().getParentPath().getLeaf() instanceof ThrowTree;
        if (isOwn(made)) {
            call(made);
        } else if (!thrown) {
            allow(isOfLibrary(made), 4, tree, "the new object " + signature(made));
        }
        allow(tree.getClassBody() == null, 2, tree, "a class without a name");
        allow(thrown || isMadeOnce(), 12, tree, "an object made by a call");
        return super.visitNewClass(tree, none);
    }

    @Override
    public Void visitNewArray(NewArrayTree tree, Void none) {
        allowType(trees.getTypeMirror(getCurrentPath()), tree);
        allow(isMadeOnce(), 12, tree, "an array made by a call");
        return super.visitNewArray(tree, none);
    }

    /** Whether what is scanned stands in a constructor or in the initialiser of a field. */
    private boolean isMadeOnce() {
        Tree around = around(true);
        return around instanceof ClassTree || ((MethodTree) around).getReturnType() == null;
    }

    @Override
    public Void visitIdentifier(IdentifierTree tree, Void none) {
        allowField(trees.getElement(getCurrentPath()), tree);
        return super.visitIdentifier(tree, none);
    }

    @Override
    public Void visitMemberSelect(MemberSelectTree tree, Void none) {
        allowField(trees.getElement(getCurrentPath()), tree);
        return super.visitMemberSelect(tree, none);
    }

    private void allowField(Element element, Tree tree) {
        if (element instanceof VariableElement && element.getKind() == ElementKind.FIELD
                && !Set.of("length", "this", "super").contains(element.getSimpleName().toString())) {
            allow(isOwn(element), 4, tree, "the field " + element);
        }
        if (element instanceof TypeElement && !isOwn(element)) {
            String name = element.getSimpleName().toString();
            allow(EXCEPTIONS.contains(name) || Set.of("String", "StringBuilder", "Math", "Integer", "Long", "Arrays",
                    "System").contains(name), 4, tree, "the class " + name);
        }
    }

    // ---- rules 6 and 9: exceptions and loops

    @Override
    public Void visitThrow(ThrowTree tree, Void none) {
        ExpressionTree thrown = tree.getExpression();
        boolean written = thrown instanceof NewClassTree
                && EXCEPTIONS.contains(((NewClassTree) thrown).getIdentifier().toString())
                && ((NewClassTree) thrown).getArguments().size() <= 1
                && ((NewClassTree) thrown).getArguments().stream().allMatch(LiteralTree.class::isInstance);
        allow(written, 6, tree, "a throw that is not of a new exception with a written text");
        Tree around = around(true);
        allow(around instanceof MethodTree && ((MethodTree) around).getReturnType() != null, 6, tree,
                "a throw in a constructor");
        return super.visitThrow(tree, none);
    }

    @Override
    public Void visitTry(TryTree tree, Void none) {
        allow(false, 6, tree, "a try");
        return super.visitTry(tree, none);
    }

    @Override
    public Void visitAssert(AssertTree tree, Void none) {
        allow(false, 6, tree, "an assert");
        return super.visitAssert(tree, none);
    }

    @Override
    public Void visitSynchronized(SynchronizedTree tree, Void none) {
        allow(false, 6, tree, "synchronized");
        return super.visitSynchronized(tree, none);
    }

    @Override
    public Void visitForLoop(ForLoopTree tree, Void none) {
        allow(tree.getCondition() != null && !isTrue(tree.getCondition()), 9, tree, "a loop without an end");
        return super.visitForLoop(tree, none);
    }

    @Override
    public Void visitWhileLoop(WhileLoopTree tree, Void none) {
        allow(!isTrue(tree.getCondition()), 9, tree, "a loop without an end");
        return super.visitWhileLoop(tree, none);
    }

    @Override
    public Void visitDoWhileLoop(DoWhileLoopTree tree, Void none) {
        allow(!isTrue(tree.getCondition()), 9, tree, "a loop without an end");
        return super.visitDoWhileLoop(tree, none);
    }

    private static boolean isTrue(ExpressionTree condition) {
        return condition.toString().replaceAll("[()]", "").equals("true");
    }
}
