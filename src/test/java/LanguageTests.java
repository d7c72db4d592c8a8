import com.sun.source.tree.AnnotationTree;
import com.sun.source.tree.AssertTree;
import com.sun.source.tree.BinaryTree;
import com.sun.source.tree.BlockTree;
import com.sun.source.tree.ClassTree;
import com.sun.source.tree.CompilationUnitTree;
import com.sun.source.tree.CompoundAssignmentTree;
import com.sun.source.tree.DoWhileLoopTree;
import com.sun.source.tree.EnhancedForLoopTree;
import com.sun.source.tree.ForLoopTree;
import com.sun.source.tree.InstanceOfTree;
import com.sun.source.tree.LambdaExpressionTree;
import com.sun.source.tree.LineMap;
import com.sun.source.tree.MemberReferenceTree;
import com.sun.source.tree.MethodInvocationTree;
import com.sun.source.tree.MethodTree;
import com.sun.source.tree.NewArrayTree;
import com.sun.source.tree.NewClassTree;
import com.sun.source.tree.SynchronizedTree;
import com.sun.source.tree.ThrowTree;
import com.sun.source.tree.Tree;
import com.sun.source.tree.TryTree;
import com.sun.source.tree.TypeCastTree;
import com.sun.source.tree.VariableTree;
import com.sun.source.tree.WhileLoopTree;
import com.sun.source.util.JavacTask;
import com.sun.source.util.TreePath;
import com.sun.source.util.TreePathScanner;
import com.sun.source.util.Trees;
import java.io.IOException;
import java.nio.file.Files;
import java.nio.file.Path;
import java.util.HashMap;
import java.util.List;
import java.util.Map;
import java.util.Set;
import java.util.TreeSet;
import java.util.regex.Pattern;
import javax.lang.model.element.Element;
import javax.lang.model.element.ElementKind;
import javax.lang.model.element.Modifier;
import javax.lang.model.type.ArrayType;
import javax.lang.model.type.TypeKind;
import javax.lang.model.type.TypeMirror;
import javax.tools.JavaCompiler;
import javax.tools.StandardJavaFileManager;
import javax.tools.ToolProvider;

/** The rules of ../shared/LANGUAGE.md, looked up in the syntax tree of the class; labels begin with the rule's number. */
public final class LanguageTests extends TreePathScanner<Void, Void> {
    private static final Path SOURCE = Path.of("src/main/java/DatingTable.java");
    /** Of what rule 4 lists, what the class has a use for. */
    private static final Set<String> LIBRARY = Set.of("java.lang.Math.max(int,int)", "java.lang.Math.min(int,int)",
        "java.lang.Math.abs(int)", "java.lang.Integer.bitCount(int)", "java.util.Arrays.fill(int[],int)",
        "java.util.Arrays.fill(long[],long)", "java.lang.System.arraycopy(java.lang.Object,int,java.lang.Object,int,int)",
        "java.lang.Object.Object()");
    private static final int MOST_LINES = 60;
    private static final int MOST_PARAMETERS = 7;
    private static final int MOST_CLASSES = 12;
    private static final int MOST_FIELDS = 20;
    private static final int MOST_DEEP = 8;

    private final Due due = new Due();
    private final Map<String, Set<String>> callsOf = new HashMap<>();
    private final Set<String> publicNames = new TreeSet<>();
    private final Set<String> otherNames = new TreeSet<>();
    private Trees trees;
    private CompilationUnitTree unit;
    private String method = null;
    private int classes = 0;

    public static void main(String[] args) throws IOException {
        LanguageTests tests = new LanguageTests();
        tests.text(Files.readString(SOURCE));
        tests.readTree();
        tests.callsEnd();
        tests.due.end();
    }

    private void text(String source) {
        due.holds("it has no package line", !Pattern.compile("(?m)^\\s*package\\b").matcher(source).find());
        due.holds("4: it takes in java.util.Arrays alone",
            !Pattern.compile("(?m)^\\s*import (?!java\\.util\\.Arrays;)").matcher(source).find());
        due.holds("3: texts hold characters 0 to 255 alone", source.chars().allMatch(c -> c < 128));
    }

    private void readTree() throws IOException {
        JavaCompiler compiler = ToolProvider.getSystemJavaCompiler();
        try (StandardJavaFileManager files = compiler.getStandardFileManager(null, null, null)) {
            List<String> options = List.of("--release", "17", "-proc:none");
            JavacTask task = (JavacTask) compiler.getTask(null, files, null, options, null, files.getJavaFileObjects(SOURCE));
            unit = task.parse().iterator().next();
            task.analyze();
            trees = Trees.instance(task);
            scan(unit, null);
        }
        due.is("it has one class on the outside", unit.getTypeDecls().size(), 1);
        due.holds("11: it has at most twelve classes: " + classes, classes <= MOST_CLASSES);
        otherNames.retainAll(publicNames);
        due.holds("1: no other method bears the name of a public one: " + otherNames, otherNames.isEmpty());
    }

    private void never(String what, Tree tree) {
        due.holds(what + ": " + tree, false);
    }

    // ---- classes, fields, methods

    @Override
    public Void visitClass(ClassTree tree, Void none) {
        classes++;
        Set<Modifier> modifiers = tree.getModifiers().getFlags();
        boolean isOutside = getCurrentPath().getParentPath().getLeaf() == unit;
        boolean isFace = modifiers.contains(Modifier.PUBLIC) && modifiers.contains(Modifier.FINAL);
        boolean isInside = modifiers.contains(Modifier.STATIC) && !modifiers.contains(Modifier.PUBLIC);
        due.holds("1, 2: how " + tree.getSimpleName() + " is seen", isOutside ? isFace : isInside);
        due.holds("2: " + tree.getSimpleName() + " is no local class", method == null);
        due.is("2, 3: " + tree.getSimpleName() + " is a class of its own", tree.getKind() == Tree.Kind.CLASS ? 1 : 0, 1);
        int fields = 0;
        for (Tree member : tree.getMembers()) {
            due.holds("5: no initialiser block", !(member instanceof BlockTree));
            if (member instanceof VariableTree) {
                Set<Modifier> of = ((VariableTree) member).getModifiers().getFlags();
                due.holds("1: is private: " + member, of.contains(Modifier.PRIVATE));
                boolean isStatic = of.contains(Modifier.STATIC);
                due.holds("5: a static field is a constant: " + member, !isStatic || isConstant((VariableTree) member));
                fields += isStatic ? 0 : 1;
            }
        }
        due.holds("11: " + tree.getSimpleName() + " has at most twenty fields: " + fields, fields <= MOST_FIELDS);
        return super.visitClass(tree, none);
    }

    private boolean isConstant(VariableTree field) {
        TypeKind kind = typeOf(field).getKind();
        boolean isFinal = field.getModifiers().getFlags().contains(Modifier.FINAL);
        return isFinal && field.getInitializer() != null && (kind == TypeKind.INT || kind == TypeKind.LONG);
    }

    @Override
    public Void visitMethod(MethodTree tree, Void none) {
        Set<Modifier> modifiers = tree.getModifiers().getFlags();
        boolean isPublic = modifiers.contains(Modifier.PUBLIC);
        method = nameOf(trees.getElement(getCurrentPath()));
        callsOf.putIfAbsent(method, new TreeSet<>());
        if (tree.getReturnType() != null) {
            (isPublic ? publicNames : otherNames).add(tree.getName() + "");
        }
        boolean isOutside = method.matches("DatingTable\\.\\w+\\(.*");
        due.holds("1: " + method + " is public or private", !isOutside || isPublic || modifiers.contains(Modifier.PRIVATE));
        due.holds("7: " + method + " declares no exception", tree.getThrows().isEmpty());
        due.holds("11: " + method + " takes at most seven", tree.getParameters().size() <= MOST_PARAMETERS);
        long lines = tree.getBody() == null ? 0 : linesOf(tree);
        due.holds("11: " + method + " stays short: " + lines, lines <= MOST_LINES);
        super.visitMethod(tree, none);
        method = null;
        return null;
    }

    private long linesOf(Tree tree) {
        LineMap map = unit.getLineMap();
        long from = trees.getSourcePositions().getStartPosition(unit, tree);
        long to = trees.getSourcePositions().getEndPosition(unit, tree);
        return map.getLineNumber(to) - map.getLineNumber(from) + 1;
    }

    // ---- types

    private TypeMirror typeOf(Tree tree) {
        return trees.getTypeMirror(TreePath.getPath(unit, tree));
    }

    @Override
    public Void visitVariable(VariableTree tree, Void none) {
        TypeMirror type = typeOf(tree);
        boolean isArray = type.getKind() == TypeKind.ARRAY;
        due.holds("3: the type of " + tree, isOne(isArray ? ((ArrayType) type).getComponentType() : type));
        return super.visitVariable(tree, none);
    }

    /** Whole numbers, booleans and classes of its own: the class has no use for others. */
    private static boolean isOne(TypeMirror type) {
        switch (type.getKind()) {
            case INT:
            case LONG:
            case BYTE:
            case CHAR:
            case BOOLEAN:
                return true;
            default:
                return type.toString().startsWith("DatingTable.");
        }
    }

    // ---- what is called

    private static String nameOf(Element e) {
        String parameters = e.toString().substring(e.toString().indexOf('('));
        boolean isConstructor = e.getKind() == ElementKind.CONSTRUCTOR;
        return e.getEnclosingElement() + "." + (isConstructor ? e.getEnclosingElement().getSimpleName() : e.getSimpleName())
            + parameters;
    }

    private void isCalled(Element e) {
        String name = nameOf(e);
        if (name.startsWith("DatingTable")) {
            if (method != null) {
                callsOf.computeIfAbsent(method, m -> new TreeSet<>()).add(name);
            }
        } else {
            due.holds("4: the library has it: " + name, LIBRARY.contains(name));
        }
    }

    @Override
    public Void visitMethodInvocation(MethodInvocationTree tree, Void none) {
        isCalled(trees.getElement(getCurrentPath()));
        return super.visitMethodInvocation(tree, none);
    }

    /** Stricter than rule 12, which would let methods make objects: here constructors and fields alone do. */
    @Override
    public Void visitNewClass(NewClassTree tree, Void none) {
        due.holds("2: no anonymous class: " + tree, tree.getClassBody() == null);
        due.holds("12: made by no call: " + tree, isInConstructorOrField());
        isCalled(trees.getElement(getCurrentPath()));
        return super.visitNewClass(tree, none);
    }

    @Override
    public Void visitNewArray(NewArrayTree tree, Void none) {
        due.holds("12: made by no call: " + tree, isInConstructorOrField());
        due.holds("3: of one dimension: " + tree, tree.getDimensions().size() == 1);
        return super.visitNewArray(tree, none);
    }

    private boolean isInConstructorOrField() {
        if (method == null) {
            return true;
        }
        String[] parts = method.replaceAll("\\(.*", "").split("\\.");
        return parts[parts.length - 1].equals(parts[parts.length - 2]);
    }

    /** Rules 8 and 11: no method calls itself by any way round, and calls go at most eight deep. */
    private void callsEnd() {
        Map<String, Integer> depths = new HashMap<>();
        for (String m : callsOf.keySet()) {
            int deep = depth(m, depths, new TreeSet<>());
            due.holds("11: " + m + " goes at most eight deep: " + deep, deep <= MOST_DEEP);
        }
        due.holds("there are calls to look at", callsOf.size() > 50);
    }

    private int depth(String m, Map<String, Integer> known, Set<String> open) {
        if (!open.add(m)) {
            due.holds("8: " + m + " does not call itself: " + open, false);
            return 0;
        }
        int most = 0;
        if (!known.containsKey(m)) {
            for (String called : callsOf.getOrDefault(m, Set.of())) {
                most = Math.max(most, depth(called, known, open));
            }
            known.put(m, most + 1);
        }
        open.remove(m);
        return known.get(m);
    }

    // ---- loops, sums and casts

    private static boolean hasBound(Tree condition) {
        return condition != null && Pattern.compile("<|>").matcher(condition.toString()).find();
    }

    @Override
    public Void visitForLoop(ForLoopTree tree, Void none) {
        due.holds("9: it ends: " + tree, hasBound(tree.getCondition()) && !tree.getUpdate().isEmpty());
        return super.visitForLoop(tree, none);
    }

    @Override
    public Void visitWhileLoop(WhileLoopTree tree, Void none) {
        due.holds("9: it ends: " + tree, hasBound(tree.getCondition()));
        return super.visitWhileLoop(tree, none);
    }

    @Override
    public Void visitDoWhileLoop(DoWhileLoopTree tree, Void none) {
        due.holds("9: it ends: " + tree, hasBound(tree.getCondition()));
        return super.visitDoWhileLoop(tree, none);
    }

    @Override
    public Void visitEnhancedForLoop(EnhancedForLoopTree tree, Void none) {
        due.holds("12: over an array: " + tree, typeOf(tree.getExpression()).getKind() == TypeKind.ARRAY);
        return super.visitEnhancedForLoop(tree, none);
    }

    @Override
    public Void visitBinary(BinaryTree tree, Void none) {
        due.holds("3, 10: no texts are joined, no doubles: " + tree, isOne(typeOf(tree)));
        return super.visitBinary(tree, none);
    }

    @Override
    public Void visitCompoundAssignment(CompoundAssignmentTree tree, Void none) {
        due.holds("3, 10: no texts are joined, no doubles: " + tree, isOne(typeOf(tree.getVariable())));
        return super.visitCompoundAssignment(tree, none);
    }

    @Override
    public Void visitTypeCast(TypeCastTree tree, Void none) {
        due.holds("6: casts are of numbers alone: " + tree, typeOf(tree).getKind().isPrimitive());
        return super.visitTypeCast(tree, none);
    }

    // ---- what may not stand there

    @Override
    public Void visitLambdaExpression(LambdaExpressionTree tree, Void none) {
        never("2: a lambda", tree);
        return null;
    }

    @Override
    public Void visitMemberReference(MemberReferenceTree tree, Void none) {
        never("2: a method reference", tree);
        return null;
    }

    @Override
    public Void visitThrow(ThrowTree tree, Void none) {
        never("6: throw", tree);
        return null;
    }

    @Override
    public Void visitTry(TryTree tree, Void none) {
        never("6: try", tree);
        return null;
    }

    @Override
    public Void visitSynchronized(SynchronizedTree tree, Void none) {
        never("6: synchronized", tree);
        return null;
    }

    @Override
    public Void visitAssert(AssertTree tree, Void none) {
        never("6: assert", tree);
        return null;
    }

    @Override
    public Void visitInstanceOf(InstanceOfTree tree, Void none) {
        never("6: instanceof, where no class is under another", tree);
        return null;
    }

    @Override
    public Void visitAnnotation(AnnotationTree tree, Void none) {
        never("an annotation", tree);
        return null;
    }
}
