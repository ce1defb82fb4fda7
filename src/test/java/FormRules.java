import com.sun.source.tree.BinaryTree;
import com.sun.source.tree.BlockTree;
import com.sun.source.tree.ClassTree;
import com.sun.source.tree.CompoundAssignmentTree;
import com.sun.source.tree.DoWhileLoopTree;
import com.sun.source.tree.EnhancedForLoopTree;
import com.sun.source.tree.ForLoopTree;
import com.sun.source.tree.ImportTree;
import com.sun.source.tree.LiteralTree;
import com.sun.source.tree.MethodInvocationTree;
import com.sun.source.tree.MethodTree;
import com.sun.source.tree.NewArrayTree;
import com.sun.source.tree.NewClassTree;
import com.sun.source.tree.ThrowTree;
import com.sun.source.tree.Tree;
import com.sun.source.tree.VariableTree;
import com.sun.source.tree.WhileLoopTree;
import com.sun.source.util.TreePath;
import com.sun.source.util.TreePathScanner;
import java.util.ArrayList;
import java.util.EnumSet;
import java.util.List;
import java.util.Map;
import java.util.Set;
import java.util.TreeMap;
import java.util.TreeSet;
import javax.lang.model.element.Element;
import javax.lang.model.element.ElementKind;
import javax.lang.model.element.Modifier;
import javax.lang.model.type.TypeMirror;

/**
 * Goes through the text of the class, rule by rule of LANGUAGE.md. It is stricter where the class
 * does without something at all, such as lists, casts of objects and catches.
 */
final class FormRules extends TreePathScanner<Void, Void> {

    /** The library's functions that the class calls, all of which rule 4 lists. */
    private static final Set<String> LIBRARY = Set.of("java.lang.String.length",
            "java.lang.String.charAt", "java.lang.Integer.bitCount", "java.lang.System.arraycopy",
            "java.util.Arrays.fill");
    private static final Set<String> EXCEPTIONS = Set.of("IllegalStateException",
            "IllegalArgumentException", "IndexOutOfBoundsException");
    private static final Set<String> NUMBERS =
            Set.of("int", "long", "short", "byte", "char", "double", "float");
    /** What no line of the class has: rules 2, 6, and "do not answer a call by catching". */
    private static final Set<Tree.Kind> NEVER = EnumSet.of(Tree.Kind.LAMBDA_EXPRESSION,
            Tree.Kind.MEMBER_REFERENCE, Tree.Kind.TRY, Tree.Kind.CATCH, Tree.Kind.SYNCHRONIZED,
            Tree.Kind.ASSERT, Tree.Kind.INSTANCE_OF, Tree.Kind.ANNOTATION, Tree.Kind.PACKAGE);

    private final Form form;
    private final Map<String, Set<String>> calls = new TreeMap<>();
    private final Set<String> publicMethods = new TreeSet<>();
    private final Set<String> ownMethods = new TreeSet<>();
    private String method = "";
    private int classes;
    private int loops;

    private FormRules(Form form) {
        this.form = form;
    }

    static void check(Form form) {
        FormRules rules = new FormRules(form);
        rules.scan(form.unit, null);
        rules.wholeFile();
    }

    private void rule(int number, Tree tree, String what, boolean so) {
        Checks.about("rule " + number + " of LANGUAGE.md");
        Checks.due("line " + form.lineOf(tree) + ": " + what, so, true);
    }

    @Override
    public Void scan(Tree tree, Void nothing) {
        if (tree != null && NEVER.contains(tree.getKind())) {
            rule(6, tree, "no " + tree.getKind(), false);
        }
        return super.scan(tree, nothing);
    }

    @Override
    public Void visitImport(ImportTree tree, Void nothing) {
        rule(4, tree, tree.toString().strip(), !tree.isStatic()
                && tree.getQualifiedIdentifier().toString().equals("java.util.Arrays"));
        return super.visitImport(tree, nothing);
    }

    // ---- classes and their members

    @Override
    public Void visitClass(ClassTree tree, Void nothing) {
        Set<Modifier> how = tree.getModifiers().getFlags();
        boolean outer = classes == 0;
        classes++;
        rule(1, tree, tree.getSimpleName() + " is as public as it has to be", outer
                ? how.equals(EnumSet.of(Modifier.PUBLIC, Modifier.FINAL))
                : !how.contains(Modifier.PUBLIC) && !how.contains(Modifier.PROTECTED));
        rule(2, tree, tree.getSimpleName() + " is static, and no local one", outer
                || getCurrentPath().getParentPath().getLeaf() instanceof ClassTree
                && form.element(getCurrentPath()).getModifiers().contains(Modifier.STATIC));
        members(tree, outer);
        return super.visitClass(tree, nothing);
    }

    private void members(ClassTree tree, boolean outer) {
        int fields = 0;
        for (Tree member : tree.getMembers()) {
            Element element = form.element(new TreePath(getCurrentPath(), member));
            rule(5, member, "no initialiser block", !(member instanceof BlockTree));
            if (element == null || member instanceof ClassTree) {
                continue;
            }
            Set<Modifier> how = element.getModifiers();
            if (outer && member instanceof MethodTree && how.contains(Modifier.PUBLIC)) {
                if (element.getKind() == ElementKind.METHOD) {
                    publicMethods.add(element.getSimpleName().toString());
                }
            } else if (outer) {
                rule(1, member, element + " is private", how.contains(Modifier.PRIVATE));
            }
            if (member instanceof VariableTree && !how.contains(Modifier.STATIC)) {
                fields++;
            }
        }
        rule(11, tree, tree.getSimpleName() + " with " + fields + " fields", fields <= 20);
    }

    @Override
    public Void visitVariable(VariableTree tree, Void nothing) {
        Element element = form.element(getCurrentPath());
        if (element.getKind() != ElementKind.ENUM_CONSTANT) {
            rule(3, tree, element + " is " + element.asType(), isType(element.asType(), 2));
        }
        if (element.getModifiers().contains(Modifier.STATIC)) {
            rule(5, tree, element + " is final", element.getModifiers().contains(Modifier.FINAL));
        }
        boolean isEnum = element.getEnclosingElement().getKind() == ElementKind.ENUM;
        if (isEnum && element.getKind() == ElementKind.FIELD
                && !element.getModifiers().contains(Modifier.STATIC)) {
            rule(2, tree, element + " of an enum", Set.of("int", "long", "boolean", "java.lang.String")
                    .contains(element.asType().toString()));
        }
        return super.visitVariable(tree, nothing);
    }

    /** Numbers, texts and the class's own; arrays of one dimension, those of numbers of two. */
    private static boolean isType(TypeMirror type, int dimensions) {
        String name = type.toString();
        if (name.endsWith("[]")) {
            String of = name.substring(0, name.indexOf('['));
            return NUMBERS.contains(of) ? name.length() - of.length() <= 2 * dimensions
                    : name.length() - of.length() == 2 && !of.startsWith("java");
        }
        return NUMBERS.contains(name) || name.equals("boolean") || name.equals("java.lang.String")
                || name.startsWith("PlankBridge.");
    }

    // ---- methods

    @Override
    public Void visitMethod(MethodTree tree, Void nothing) {
        String before = method;
        Element element = form.element(getCurrentPath());
        method = nameOf(element);
        calls.computeIfAbsent(method, m -> new TreeSet<>());
        ownMethods.add(method);
        rule(11, tree, method + " takes at most 7", tree.getParameters().size() <= 7);
        rule(11, tree, method + " has " + form.linesOf(tree) + " lines", form.linesOf(tree) <= 60);
        super.visitMethod(tree, nothing);
        method = before;
        return null;
    }

    private static String nameOf(Element method) {
        return method.getEnclosingElement() + "." + method.getSimpleName();
    }

    private boolean inConstructor() {
        return method.endsWith(".<init>");
    }

    @Override
    public Void visitMethodInvocation(MethodInvocationTree tree, Void nothing) {
        Element called = form.element(getCurrentPath());
        String name = nameOf(called);
        boolean own = name.startsWith("PlankBridge.");
        boolean ofObject = name.equals("java.lang.Object.<init>") || name.equals("java.lang.Enum.<init>");
        if (!own && !ofObject) {
            rule(4, tree, name, LIBRARY.contains(name));
        }
        if (name.equals("java.lang.System.arraycopy") || name.equals("java.util.Arrays.fill")) {
            rule(4, tree, name + " over " + typeOf(tree.getArguments().get(0)) + " is over numbers",
                    NUMBERS.contains(typeOf(tree.getArguments().get(0)).replace("[]", "")));
        }
        if (own && name.endsWith(".values")) {
            rule(5, tree, "values() is kept", method.isEmpty());
        }
        if (!ofObject && !method.isEmpty()) {
            calls.get(method).add(name);
        }
        return super.visitMethodInvocation(tree, nothing);
    }

    private String typeOf(Tree argument) {
        return form.type(new TreePath(getCurrentPath(), argument)).toString();
    }

    // ---- what is made and thrown

    @Override
    public Void visitThrow(ThrowTree tree, Void nothing) {
        boolean plain = tree.getExpression() instanceof NewClassTree;
        rule(6, tree, "throw new", plain && !inConstructor());
        if (plain) {
            NewClassTree made = (NewClassTree) tree.getExpression();
            rule(6, tree, "throws " + made.getIdentifier(),
                    EXCEPTIONS.contains(made.getIdentifier().toString())
                    && made.getArguments().stream().allMatch(a -> a instanceof LiteralTree));
        }
        return super.visitThrow(tree, nothing);
    }

    @Override
    public Void visitNewClass(NewClassTree tree, Void nothing) {
        boolean thrown = getCurrentPath().getParentPath().getLeaf() instanceof ThrowTree;
        boolean constant = form.type(getCurrentPath()).toString().equals("PlankBridge.Kind");
        rule(12, tree, "new " + tree.getIdentifier() + " is made once, with its object",
                thrown || constant || method.isEmpty() || inConstructor());
        rule(12, tree, "new " + tree.getIdentifier() + " in a loop", loops == 0);
        return super.visitNewClass(tree, nothing);
    }

    @Override
    public Void visitNewArray(NewArrayTree tree, Void nothing) {
        rule(12, tree, "an array is made once, with its object", method.isEmpty());
        return super.visitNewArray(tree, nothing);
    }

    @Override
    public Void visitBinary(BinaryTree tree, Void nothing) {
        boolean text = form.type(getCurrentPath()).toString().equals("java.lang.String");
        rule(10, tree, "no texts joined by " + tree.getKind(), !text);
        requireSafeDivision(tree.getKind(), tree, tree.getRightOperand());
        return super.visitBinary(tree, nothing);
    }

    @Override
    public Void visitCompoundAssignment(CompoundAssignmentTree tree, Void nothing) {
        requireSafeDivision(tree.getKind(), tree, tree.getExpression());
        return super.visitCompoundAssignment(tree, nothing);
    }

    /** A divisor is a number, a constant, or looked at in the same line (that of meanStrength). */
    private void requireSafeDivision(Tree.Kind kind, Tree tree, Tree divisor) {
        if (kind.name().startsWith("DIVIDE") || kind.name().startsWith("REMAINDER")) {
            String text = divisor.toString();
            boolean tested = getCurrentPath().getParentPath().getLeaf().toString()
                    .startsWith(text + " > 0 ?");
            rule(7, tree, "a divisor " + text, text.matches("[1-9][0-9]*|KEPT_NOTES") || tested);
        }
    }

    // ---- loops

    @Override
    public Void visitForLoop(ForLoopTree tree, Void nothing) {
        rule(9, tree, "a for with a bound", tree.getCondition() != null && !tree.getUpdate().isEmpty());
        loops++;
        super.visitForLoop(tree, nothing);
        loops--;
        return null;
    }

    @Override
    public Void visitWhileLoop(WhileLoopTree tree, Void nothing) {
        rule(9, tree, "a while with a bound", tree.getCondition().toString().matches(".*[<>].*"));
        loops++;
        super.visitWhileLoop(tree, nothing);
        loops--;
        return null;
    }

    @Override
    public Void visitDoWhileLoop(DoWhileLoopTree tree, Void nothing) {
        rule(9, tree, "no do", false);
        return super.visitDoWhileLoop(tree, nothing);
    }

    @Override
    public Void visitEnhancedForLoop(EnhancedForLoopTree tree, Void nothing) {
        rule(12, tree, "loops go by index", false);
        return super.visitEnhancedForLoop(tree, nothing);
    }

    // ---- the file as a whole

    private void wholeFile() {
        rule(11, form.unit, classes + " classes", classes <= 12);
        for (String own : ownMethods) {
            String name = own.substring(own.lastIndexOf('.') + 1);
            rule(1, form.unit, own + " does not bear the name of a public one",
                    own.equals("PlankBridge." + name) || !publicMethods.contains(name));
        }
        TreeSet<String> recursive = new TreeSet<>();
        for (String own : ownMethods) {
            rule(11, form.unit, own + " goes " + depth(own, new ArrayList<>(), recursive) + " deep",
                    depth(own, new ArrayList<>(), recursive) <= 8);
        }
        Checks.about("rule 8 of LANGUAGE.md");
        // readBlock takes the depth, and refuses what would be deeper than three.
        Checks.due("the methods that call one another", recursive.toString(),
                "[PlankBridge.Reader.readAct, PlankBridge.Reader.readBlock, PlankBridge.Reader.readBlockOf]");
    }

    /** How many calls stand open at most, a method that is open already not counted once more. */
    private int depth(String name, List<String> open, Set<String> recursive) {
        int first = open.indexOf(name);
        if (first >= 0) {
            recursive.addAll(open.subList(first, open.size()));
            return 0;
        }
        open.add(name);
        int deepest = 0;
        for (String called : calls.getOrDefault(name, Set.of())) {
            deepest = Math.max(deepest, depth(called, open, recursive));
        }
        open.remove(open.size() - 1);
        return deepest + 1;
    }
}
