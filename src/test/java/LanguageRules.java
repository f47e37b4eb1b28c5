import com.sun.source.tree.*;
import com.sun.source.util.TreePath;
import com.sun.source.util.TreePathScanner;
import java.io.IOException;
import java.util.ArrayList;
import java.util.HashMap;
import java.util.HashSet;
import java.util.List;
import java.util.Map;
import java.util.Set;
import java.util.regex.Pattern;
import javax.lang.model.element.Element;
import javax.lang.model.element.ElementKind;
import javax.lang.model.element.ExecutableElement;
import javax.lang.model.element.Modifier;
import javax.lang.model.element.VariableElement;

/**
 * What of ../shared/LANGUAGE.md a source file breaks, as far as its syntax tree shows it. Where the rules leave more
 * than the class has need of (lists, doubles, casts among own classes, ..), this refuses it: who takes it up reads the
 * rule first, then widens this.
 */
final class LanguageRules extends TreePathScanner<Void, Void> {
    private static final String OUTER = "IceSearch";
    private static final Set<String> LIBRARY = Set.of("String.length", "String.charAt", "String.isEmpty",
        "String.equals", "String.indexOf", "String.substring", "String.toCharArray", "Math.max", "Math.min", "Math.abs",
        "Math.floorDiv", "Math.floorMod", "Integer.compare", "Integer.bitCount", "Long.compare", "Long.bitCount",
        "System.arraycopy", "Arrays.copyOf", "Arrays.copyOfRange", "Arrays.fill");
    private static final Pattern NUMBER = Pattern.compile("int|long|short|byte|char");
    private static final Set<String> TABLES = Set.of("int[]", "long[]", "char[]", "byte[]");
    private static final Set<String> CONSTANTS = Set.of("int", "long", "boolean", "char", "java.lang.String");
    private static final Set<Tree.Kind> COMPARISONS = Set.of(Tree.Kind.LESS_THAN, Tree.Kind.LESS_THAN_EQUAL,
        Tree.Kind.GREATER_THAN, Tree.Kind.GREATER_THAN_EQUAL, Tree.Kind.NOT_EQUAL_TO);
    private static final int METHOD_LINES = 60;
    private static final int PARAMETERS = 7;
    private static final int CLASSES = 12;
    private static final int FIELDS = 20;

    private final Syntax syntax;
    private final List<String> breaches = new ArrayList<>();
    private final CallGraph calls = new CallGraph();
    private final Map<Element, String> firstValues = new HashMap<>();
    private final Set<String> faces = new HashSet<>();
    private final Set<String> hidden = new HashSet<>();
    private int classes;

    private LanguageRules(Syntax syntax) {
        this.syntax = syntax;
    }

    /** What is broken: each time the rule's number, a colon, and what it is. */
    static List<String> breaches(String source) throws IOException {
        LanguageRules rules = new LanguageRules(new Syntax(source));
        rules.judge(source);
        return rules.breaches;
    }

    private void judge(String source) {
        holds(0, syntax.compiles, "it compiles", syntax.unit);
        holds(10, source.chars().allMatch(c -> c == '\n' || c >= ' ' && c < 127), "its signs are plain", syntax.unit);
        scan(syntax.unit, null);
        holds(11, classes <= CLASSES, "so many classes: " + classes, syntax.unit);
        hidden.retainAll(faces);
        holds(1, hidden.isEmpty(), "private methods named as public ones: " + hidden, syntax.unit);
        calls.judge((rule, what) -> breaches.add(rule + ": " + what));
    }

    private void holds(int rule, boolean is, String what, Tree tree) {
        if (!is) {
            breaches.add(rule + ": " + what + ", line " + syntax.firstLine(tree));
        }
    }

    private void never(int rule, Tree tree) {
        holds(rule, false, "a " + tree.getKind(), tree);
    }

    private TreePath here() {
        return getCurrentPath();
    }

    private Tree parent() {
        return here().getParentPath().getLeaf();
    }

    private boolean isOwn(Element member) {
        return Syntax.owner(member).equals(OUTER) || Syntax.owner(member).startsWith(OUTER + ".");
    }

    @Override
    public Void visitCompilationUnit(CompilationUnitTree tree, Void none) {
        holds(1, tree.getPackageName() == null, "a package", tree);
        holds(1, tree.getTypeDecls().size() == 1, "one class", tree);
        for (ImportTree one : tree.getImports()) {
            holds(4, one.getQualifiedIdentifier().toString().equals("java.util.Arrays"), one.toString().trim(), one);
        }
        return super.visitCompilationUnit(tree, none);
    }

    @Override
    public Void visitClass(ClassTree tree, Void none) {
        Set<Modifier> modifiers = tree.getModifiers().getFlags();
        classes++;
        if (parent() == syntax.unit) {
            holds(1, modifiers.equals(Set.of(Modifier.PUBLIC, Modifier.FINAL)), "the class is public and final", tree);
            holds(1, tree.getSimpleName().contentEquals(OUTER), "the class is the document's", tree);
        } else {
            boolean isStatic = tree.getKind() != Tree.Kind.CLASS || modifiers.contains(Modifier.STATIC);
            holds(2, parent() instanceof ClassTree && isStatic, "a class is static", tree);
            boolean isSeen = modifiers.contains(Modifier.PUBLIC) || modifiers.contains(Modifier.PROTECTED);
            holds(1, !isSeen, "a class inside is hidden", tree);
        }
        long fields = tree.getMembers().stream().filter(m -> m instanceof VariableTree v
            && !v.getModifiers().getFlags().contains(Modifier.STATIC)).count();
        holds(11, fields <= FIELDS, "so many fields: " + fields, tree);
        return super.visitClass(tree, none);
    }

    @Override
    public Void visitMethod(MethodTree tree, Void none) {
        Set<Modifier> modifiers = tree.getModifiers().getFlags();
        String name = tree.getName().toString();
        boolean isFace = modifiers.contains(Modifier.PUBLIC);
        boolean isOuter = here().getParentPath().getParentPath().getLeaf() == syntax.unit;
        if (!name.equals("<init>")) {
            (isFace && isOuter ? faces : hidden).add(name);
        }
        holds(1, !isOuter || isFace || modifiers.contains(Modifier.PRIVATE), name + " is public or private", tree);
        holds(6, !Set.of("equals", "hashCode", "toString").contains(name), "no " + name, tree);
        holds(6, tree.getThrows().isEmpty(), name + " throws nothing", tree);
        holds(6, !modifiers.contains(Modifier.SYNCHRONIZED), name + " is not synchronized", tree);
        holds(11, tree.getParameters().size() <= PARAMETERS, name + " has few parameters", tree);
        holds(11, syntax.lines(tree) <= METHOD_LINES, name + " is short", tree);
        calls.add((ExecutableElement) syntax.element(here()));
        return super.visitMethod(tree, none);
    }

    @Override
    public Void visitBlock(BlockTree tree, Void none) {
        holds(5, !(parent() instanceof ClassTree), "an initialiser block", tree);
        return super.visitBlock(tree, none);
    }

    @Override
    public Void visitVariable(VariableTree tree, Void none) {
        Element element = syntax.element(here());
        String type = String.valueOf(element.asType());
        firstValues.put(element, String.valueOf(tree.getInitializer()));
        holds(3, isAllowedType(type), type + " is a type of the language", tree);
        if (Syntax.isField(element)) {
            visitField(tree, element, type);
        }
        return super.visitVariable(tree, none);
    }

    private static boolean isAllowedType(String type) {
        String plain = type.replace("[][]", "[]");
        boolean deep = !plain.equals(type);
        String one = plain.endsWith("[]") ? plain.substring(0, plain.length() - 2) : plain;
        boolean isNumber = NUMBER.matcher(one).matches();
        boolean isKnown = isNumber || one.equals("boolean") || one.equals(OUTER)
            || one.startsWith(OUTER + ".")
            || plain.equals("java.lang.String") || plain.equals("java.lang.StringBuilder");
        return isKnown && (isNumber || !deep);
    }

    private void visitField(VariableTree tree, Element element, String type) {
        Set<Modifier> modifiers = element.getModifiers();
        boolean isNone = modifiers.contains(Modifier.PUBLIC) && tree.getName().contentEquals("NONE");
        holds(1, Syntax.owner(element).equals(OUTER) ? isNone || modifiers.contains(Modifier.PRIVATE) : true,
            tree.getName() + " is private", tree);
        if (!modifiers.contains(Modifier.STATIC)) {
            return;
        }
        boolean isWritten = tree.getInitializer() instanceof NewArrayTree array && array.getInitializers() != null;
        boolean isConstant = CONSTANTS.contains(type) && ((VariableElement) element).getConstantValue() != null;
        holds(5, modifiers.contains(Modifier.FINAL), tree.getName() + " is final", tree);
        holds(5, isConstant || TABLES.contains(type) && isWritten, tree.getName() + " is written out", tree);
    }

    @Override
    public Void visitMethodInvocation(MethodInvocationTree tree, Void none) {
        ExecutableElement method = (ExecutableElement) syntax.element(here());
        boolean isOwnSuper = tree.getMethodSelect().toString().equals("super");
        if (isOwn(method)) {
            calls.call(callerOf(here()), method);
        } else if (!isOwnSuper) {
            visitLibraryCall(tree, method);
        }
        return super.visitMethodInvocation(tree, none);
    }

    private void visitLibraryCall(MethodInvocationTree tree, ExecutableElement method) {
        String owner = Syntax.owner(method);
        String name = owner.substring(owner.lastIndexOf('.') + 1) + "." + method.getSimpleName();
        boolean known = LIBRARY.contains(name) && owner.matches("java\\.(lang|util)\\.[A-Za-z]*");
        holds(4, known, name + " is in the library", tree);
        if (known && owner.equals("java.util.Arrays") || name.equals("System.arraycopy")) {
            ExpressionTree array = tree.getArguments().get(0);
            String type = syntax.typeName(here(), array);
            holds(4, type.endsWith("[]") && NUMBER.matcher(type.substring(0, type.length() - 2)).matches(),
                name + " of numbers, not " + type, tree);
            tree.getArguments().forEach(a -> unchanged(a, "the start of " + name));
        }
        if (name.equals("String.indexOf")) {
            holds(4, syntax.typeName(here(), tree.getArguments().get(0)).equals("char"), "indexOf of a char", tree);
        }
    }

    private static Tree methodAround(TreePath path) {
        TreePath up = path;
        while (up != null && !(up.getLeaf() instanceof MethodTree)) {
            up = up.getParentPath();
        }
        return up == null ? null : up.getLeaf();
    }

    private ExecutableElement callerOf(TreePath path) {
        Tree method = methodAround(path);
        return method == null ? null : (ExecutableElement) syntax.element(TreePath.getPath(syntax.unit, method));
    }

    @Override
    public Void visitNewClass(NewClassTree tree, Void none) {
        Element made = syntax.element(here());
        String type = tree.getIdentifier().toString();
        boolean isText = type.equals("StringBuilder") || type.equals("String");
        if (made instanceof ExecutableElement constructor && isOwn(made)) {
            calls.call(callerOf(here()), constructor);
        } else {
            holds(4, isText || tree.getClassBody() != null, "new " + type, tree);
        }
        holds(12, !isInOpenLoop(), "new " + type + " in a loop that counts nothing", tree);
        return super.visitNewClass(tree, none);
    }

    @Override
    public Void visitNewArray(NewArrayTree tree, Void none) {
        holds(12, !isInOpenLoop(), "an array in a loop that counts nothing", tree);
        return super.visitNewArray(tree, none);
    }

    private boolean isInOpenLoop() {
        for (TreePath up = here(); up != null && !(up.getLeaf() instanceof MethodTree); up = up.getParentPath()) {
            if (up.getLeaf() instanceof WhileLoopTree || up.getLeaf() instanceof DoWhileLoopTree) {
                return true;
            }
        }
        return false;
    }

    @Override
    public Void visitIdentifier(IdentifierTree tree, Void none) {
        boolean isThis = tree.getName().contentEquals("this");
        holds(12, !isThis || parent() instanceof MemberSelectTree, "this is handed out", tree);
        return super.visitIdentifier(tree, none);
    }

    @Override
    public Void visitMemberSelect(MemberSelectTree tree, Void none) {
        Element element = syntax.element(here());
        boolean isLength = tree.getIdentifier().contentEquals("length");
        holds(4, !Syntax.isField(element) || isLength || isOwn(element), tree + " of the library", tree);
        return super.visitMemberSelect(tree, none);
    }

    @Override
    public Void visitLiteral(LiteralTree tree, Void none) {
        if (tree.getValue() instanceof String || tree.getValue() instanceof Character) {
            String text = tree.getValue().toString();
            holds(4, text.chars().allMatch(c -> c >= 1 && c <= 127), "signs 1 to 127", tree);
        }
        holds(3, !(tree.getValue() instanceof Double || tree.getValue() instanceof Float), "no double", tree);
        return super.visitLiteral(tree, none);
    }

    @Override
    public Void visitBinary(BinaryTree tree, Void none) {
        String left = syntax.typeName(here(), tree.getLeftOperand());
        String right = syntax.typeName(here(), tree.getRightOperand());
        boolean isText = left.equals("java.lang.String") || right.equals("java.lang.String");
        boolean isBoxed = left.equals("java.lang.Integer") || right.equals("java.lang.Integer");
        switch (tree.getKind()) {
            case EQUAL_TO, NOT_EQUAL_TO -> holds(6, !isText && !isBoxed, "== of texts", tree);
            case PLUS -> holds(10, !isText, "texts joined by +", tree);
            case DIVIDE, REMAINDER -> judgeDivisor(tree.getRightOperand());
            default -> { }
        }
        return super.visitBinary(tree, none);
    }

    private void judgeDivisor(ExpressionTree divisor) {
        Element element = syntax.element(here(), divisor);
        Object value = divisor instanceof LiteralTree literal ? literal.getValue()
            : element instanceof VariableElement variable ? variable.getConstantValue() : null;
        boolean isConstant = value instanceof Number number && number.longValue() != 0;
        boolean isOneAtLeast = firstValues.getOrDefault(element, "").startsWith("Math.max(1,");
        holds(7, isConstant || isOneAtLeast, "the divisor " + divisor + " is never 0", divisor);
    }

    @Override
    public Void visitCompoundAssignment(CompoundAssignmentTree tree, Void none) {
        String type = syntax.typeName(here(), tree.getVariable());
        holds(10, !type.equals("java.lang.String"), "texts joined by +=", tree);
        if (tree.getKind() == Tree.Kind.DIVIDE_ASSIGNMENT || tree.getKind() == Tree.Kind.REMAINDER_ASSIGNMENT) {
            judgeDivisor(tree.getExpression());
        }
        unchangedElement(tree.getVariable());
        return super.visitCompoundAssignment(tree, none);
    }

    @Override
    public Void visitAssignment(AssignmentTree tree, Void none) {
        unchangedElement(tree.getVariable());
        return super.visitAssignment(tree, none);
    }

    @Override
    public Void visitUnary(UnaryTree tree, Void none) {
        if (tree.getKind().name().contains("CREMENT")) {
            unchangedElement(tree.getExpression());
        }
        return super.visitUnary(tree, none);
    }

    private void unchangedElement(ExpressionTree changed) {
        if (changed instanceof ArrayAccessTree access) {
            unchanged(access.getExpression(), "an element of it is changed");
        }
    }

    private void unchanged(ExpressionTree array, String how) {
        Element element = syntax.element(here(), array);
        boolean isStatic = Syntax.isField(element) && element.getModifiers().contains(Modifier.STATIC)
            && element.asType().toString().endsWith("[]");
        holds(5, !isStatic, array + " is constant: " + how, array);
    }

    @Override
    public Void visitTypeCast(TypeCastTree tree, Void none) {
        holds(6, NUMBER.matcher(tree.getType().toString()).matches(), "a cast to " + tree.getType(), tree);
        return super.visitTypeCast(tree, none);
    }

    @Override
    public Void visitForLoop(ForLoopTree tree, Void none) {
        holds(9, tree.getCondition() != null && !tree.getUpdate().isEmpty()
            && isCounted(tree.getCondition(), String.valueOf(tree.getUpdate())), "the loop's end is seen", tree);
        return super.visitForLoop(tree, none);
    }

    @Override
    public Void visitWhileLoop(WhileLoopTree tree, Void none) {
        holds(9, isCounted(tree.getCondition(), tree.getStatement().toString()), "the loop's end is seen", tree);
        return super.visitWhileLoop(tree, none);
    }

    @Override
    public Void visitDoWhileLoop(DoWhileLoopTree tree, Void none) {
        holds(9, isCounted(tree.getCondition(), tree.getStatement().toString()), "the loop's end is seen", tree);
        return super.visitDoWhileLoop(tree, none);
    }

    /** Whether a condition, or a part of it that must hold, compares something that the loop itself changes. */
    private static boolean isCounted(ExpressionTree condition, String changes) {
        ExpressionTree plain = condition;
        while (plain instanceof ParenthesizedTree wrapped) {
            plain = wrapped.getExpression();
        }
        if (!(plain instanceof BinaryTree both)) {
            return false;
        }
        if (both.getKind() == Tree.Kind.CONDITIONAL_AND) {
            return isCounted(both.getLeftOperand(), changes) || isCounted(both.getRightOperand(), changes);
        }
        return COMPARISONS.contains(both.getKind())
            && (isChanged(both.getLeftOperand(), changes) || isChanged(both.getRightOperand(), changes));
    }

    private static boolean isChanged(ExpressionTree one, String changes) {
        String name = Pattern.quote(one.toString());
        return one instanceof IdentifierTree
            && Pattern.compile("\\b" + name + "(\\+\\+|--| [-+]?= )").matcher(changes).find();
    }

    @Override
    public Void visitSwitch(SwitchTree tree, Void none) {
        String type = syntax.typeName(here(), tree.getExpression());
        holds(10, !type.equals("java.lang.String"), "a switch on a text", tree);
        return super.visitSwitch(tree, none);
    }

    @Override
    public Void visitLambdaExpression(LambdaExpressionTree tree, Void none) {
        never(2, tree);
        return null;
    }

    @Override
    public Void visitMemberReference(MemberReferenceTree tree, Void none) {
        never(2, tree);
        return null;
    }

    @Override
    public Void visitThrow(ThrowTree tree, Void none) {
        never(6, tree);
        return super.visitThrow(tree, none);
    }

    @Override
    public Void visitTry(TryTree tree, Void none) {
        never(6, tree);
        return super.visitTry(tree, none);
    }

    @Override
    public Void visitSynchronized(SynchronizedTree tree, Void none) {
        never(6, tree);
        return super.visitSynchronized(tree, none);
    }

    @Override
    public Void visitAssert(AssertTree tree, Void none) {
        never(6, tree);
        return super.visitAssert(tree, none);
    }

    @Override
    public Void visitAnnotation(AnnotationTree tree, Void none) {
        never(4, tree);
        return super.visitAnnotation(tree, none);
    }
}
