import com.sun.source.tree.ArrayTypeTree;
import com.sun.source.tree.BinaryTree;
import com.sun.source.tree.ClassTree;
import com.sun.source.tree.CompilationUnitTree;
import com.sun.source.tree.ExpressionTree;
import com.sun.source.tree.LineMap;
import com.sun.source.tree.MethodInvocationTree;
import com.sun.source.tree.MethodTree;
import com.sun.source.tree.NewClassTree;
import com.sun.source.tree.Tree;
import com.sun.source.tree.VariableTree;
import com.sun.source.util.JavacTask;
import com.sun.source.util.SourcePositions;
import com.sun.source.util.TreePath;
import com.sun.source.util.TreePathScanner;
import com.sun.source.util.Trees;
import java.io.IOException;
import java.util.ArrayList;
import java.util.HashSet;
import java.util.List;
import java.util.Map;
import java.util.Set;
import java.util.TreeMap;
import java.util.TreeSet;
import javax.lang.model.element.Element;
import javax.lang.model.element.Modifier;
import javax.lang.model.type.TypeMirror;
import javax.tools.JavaCompiler;
import javax.tools.StandardJavaFileManager;
import javax.tools.ToolProvider;

/** What of LANGUAGE.md is seen when the compiler has read the program: its signs, types, library, and how deep calls go. */
public final class TreeTest extends TreePathScanner<Void, String> {
    private static final String SOURCE = "src/main/java/FourPalms.java";
    private static final int DEEPEST = 8;
    private static final int LONGEST = 60;
    private static final int MOST_PARAMETERS = 7;
    private static final int MOST_CLASSES = 12;
    private static final int MOST_FIELDS = 20;

    /** Kinds of trees that rules 2, 4, 6 and 10 leave. */
    private static final Set<String> KINDS = words("AND AND_ASSIGNMENT ARRAY_ACCESS ARRAY_TYPE ASSIGNMENT BITWISE_COMPLEMENT "
        + "BLOCK BOOLEAN_LITERAL BREAK CASE CHAR_LITERAL CLASS COMPILATION_UNIT CONDITIONAL_AND CONDITIONAL_EXPRESSION "
        + "CONDITIONAL_OR CONTINUE DIVIDE DIVIDE_ASSIGNMENT DO_WHILE_LOOP ENHANCED_FOR_LOOP EQUAL_TO EXPRESSION_STATEMENT "
        + "FOR_LOOP GREATER_THAN GREATER_THAN_EQUAL IDENTIFIER IF IMPORT INT_LITERAL LABELED_STATEMENT LEFT_SHIFT "
        + "LEFT_SHIFT_ASSIGNMENT LESS_THAN LESS_THAN_EQUAL LOGICAL_COMPLEMENT LONG_LITERAL MEMBER_SELECT METHOD "
        + "METHOD_INVOCATION MINUS MINUS_ASSIGNMENT MODIFIERS MULTIPLY MULTIPLY_ASSIGNMENT NEW_ARRAY NEW_CLASS NOT_EQUAL_TO "
        + "NULL_LITERAL OR OR_ASSIGNMENT PARENTHESIZED PLUS PLUS_ASSIGNMENT POSTFIX_DECREMENT POSTFIX_INCREMENT "
        + "PREFIX_DECREMENT PREFIX_INCREMENT PRIMITIVE_TYPE REMAINDER REMAINDER_ASSIGNMENT RETURN RIGHT_SHIFT "
        + "RIGHT_SHIFT_ASSIGNMENT STRING_LITERAL SWITCH TYPE_CAST UNARY_MINUS UNSIGNED_RIGHT_SHIFT "
        + "UNSIGNED_RIGHT_SHIFT_ASSIGNMENT VARIABLE WHILE_LOOP XOR XOR_ASSIGNMENT");

    /** What the program takes of the library, all of it in rule 4; arrays are of numbers. */
    private static final Set<String> LIBRARY = words("Object.Object() String.charAt(int) String.indexOf(int) "
        + "Integer.bitCount(int) Math.min(int,int) Math.max(int,int) Arrays.fill(int[],int) System.arraycopy(int[],int[])");

    /** Types of what is declared, besides the classes inside. */
    private static final Set<String> TYPES = words("int long boolean String int[] long[] boolean[]");

    private static final Set<String> wrong = new TreeSet<>();

    private final CompilationUnitTree unit;
    private final Trees trees;
    private final Set<String> inside = new TreeSet<>();
    private final Map<String, Set<String>> calls = new TreeMap<>();

    private TreeTest(CompilationUnitTree unit, Trees trees) {
        this.unit = unit;
        this.trees = trees;
    }

    private static Set<String> words(String of) {
        return new HashSet<>(List.of(of.split(" ")));
    }

    private static void check(boolean holds, String what) {
        if (!holds) {
            wrong.add(what);
        }
    }

    public static void main(String[] args) throws IOException {
        JavaCompiler compiler = ToolProvider.getSystemJavaCompiler();
        StandardJavaFileManager files = compiler.getStandardFileManager(null, null, null);
        JavacTask task = (JavacTask) compiler.getTask(null, files, null, null, null, files.getJavaFileObjects(SOURCE));
        int read = 0;
        for (CompilationUnitTree unit : task.parse()) {
            task.analyze();
            TreeTest test = new TreeTest(unit, Trees.instance(task));
            test.scan(unit, "");
            test.depths();
            check(test.inside.size() <= MOST_CLASSES, "11: " + test.inside.size() + " classes");
            read += test.calls.size();
        }
        check(read > 100, "methods read: " + read);
        wrong.forEach(System.out::println);
        System.out.println(read + " methods read, " + wrong.size() + " things against the language");
        if (!wrong.isEmpty()) {
            System.exit(1);
        }
    }

    @Override
    public Void scan(Tree tree, String method) {
        check(tree == null || KINDS.contains(tree.getKind().toString()), "a " + (tree == null ? "" : tree.getKind()));
        return super.scan(tree, method);
    }

    private Element element() {
        return trees.getElement(getCurrentPath());
    }

    private static String simple(Object type) {
        String name = type.toString();
        return name.substring(name.lastIndexOf('.') + 1);
    }

    @Override
    public Void visitClass(ClassTree tree, String method) {
        inside.add(tree.getSimpleName().toString());
        int fields = 0;
        for (Tree member : tree.getMembers()) {
            check(member.getKind() != Tree.Kind.BLOCK, "5: a block of its own in " + tree.getSimpleName());
            if (member instanceof VariableTree field && !field.getModifiers().getFlags().contains(Modifier.STATIC)) {
                fields++;
            }
        }
        check(fields <= MOST_FIELDS, "11: " + fields + " fields in " + tree.getSimpleName());
        check(method.isEmpty(), "2: a class within a method: " + tree.getSimpleName());
        return super.visitClass(tree, method);
    }

    @Override
    public Void visitMethod(MethodTree tree, String method) {
        String name = simple(element().getEnclosingElement()) + "." + element();
        calls.put(name, new TreeSet<>());
        check(tree.getParameters().size() <= MOST_PARAMETERS, "11: many parameters: " + name);
        SourcePositions at = trees.getSourcePositions();
        LineMap lines = unit.getLineMap();
        long first = lines.getLineNumber(at.getStartPosition(unit, tree));
        long last = lines.getLineNumber(at.getEndPosition(unit, tree));
        check(last - first < LONGEST, "11: a long method: " + name);
        return super.visitMethod(tree, name);
    }

    @Override
    public Void visitMethodInvocation(MethodInvocationTree tree, String method) {
        Element called = element();
        String owner = simple(called.getEnclosingElement());
        String name = owner + "." + called;
        if (!fromHere(called)) {
            String library = called.getSimpleName().contentEquals("arraycopy") ? "System.arraycopy" + arrays(tree) : name;
            check(LIBRARY.contains(library), "4: of the library " + library);
        }
        calls.computeIfAbsent(method, k -> new TreeSet<>()).add(name);
        return super.visitMethodInvocation(tree, method);
    }

    private String arrays(MethodInvocationTree copy) {
        return "(" + typeOf(copy.getArguments().get(0)) + "," + typeOf(copy.getArguments().get(2)) + ")";
    }

    private TypeMirror typeOf(ExpressionTree tree) {
        return trees.getTypeMirror(new TreePath(getCurrentPath(), tree));
    }

    @Override
    public Void visitBinary(BinaryTree tree, String method) {
        boolean text = simple(typeOf(tree.getLeftOperand())).equals("String")
            || simple(typeOf(tree.getRightOperand())).equals("String");
        check(!text, "6, 10: texts joined or compared by a sign: " + tree);
        return super.visitBinary(tree, method);
    }

    private boolean fromHere(Element called) {
        for (Element e = called; e != null; e = e.getEnclosingElement()) {
            if (e.getSimpleName().contentEquals("FourPalms")) {
                return true;
            }
        }
        return false;
    }

    @Override
    public Void visitNewClass(NewClassTree tree, String method) {
        Element made = element();
        check(fromHere(made), "4: makes " + made.getEnclosingElement());
        check(tree.getClassBody() == null, "2: a class without a name");
        if (!method.isEmpty()) {
            calls.get(method).add(simple(made.getEnclosingElement()) + "." + made);
        }
        return super.visitNewClass(tree, method);
    }

    @Override
    public Void visitVariable(VariableTree tree, String method) {
        String type = tree.getType().toString();
        String one = tree.getType() instanceof ArrayTypeTree array ? array.getType().toString() : type;
        check(TYPES.contains(type) || isClassInside(one), "3: of the type " + type + ": " + tree.getName());
        return super.visitVariable(tree, method);
    }

    private boolean isClassInside(String name) {
        for (Tree type : unit.getTypeDecls()) {
            for (Tree member : ((ClassTree) type).getMembers()) {
                if (member instanceof ClassTree c && c.getSimpleName().contentEquals(name)) {
                    return true;
                }
            }
        }
        return false;
    }

    private void depths() {
        for (String name : calls.keySet()) {
            List<String> deepest = deepest(name, new ArrayList<>());
            check(deepest.size() <= DEEPEST, "11: " + deepest.size() + " calls deep: " + deepest);
        }
    }

    /** The longest row of calls from a method on, the library's own ones too. */
    private List<String> deepest(String name, List<String> open) {
        check(!open.contains(name), "8: calls itself: " + name);
        List<String> longest = new ArrayList<>();
        if (!open.contains(name)) {
            open.add(name);
            for (String next : calls.getOrDefault(name, Set.of())) {
                List<String> behind = deepest(next, open);
                longest = behind.size() > longest.size() ? behind : longest;
            }
            open.remove(name);
        }
        List<String> row = new ArrayList<>(List.of(name));
        row.addAll(longest);
        return row;
    }
}
