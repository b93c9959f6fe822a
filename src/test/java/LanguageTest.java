import com.sun.source.tree.*;
import com.sun.source.util.JavacTask;
import com.sun.source.util.TreeScanner;
import java.io.IOException;
import java.nio.file.Files;
import java.nio.file.Path;
import java.util.ArrayDeque;
import java.util.Deque;
import java.util.HashMap;
import java.util.Map;
import java.util.Set;
import java.util.TreeSet;
import javax.lang.model.element.Modifier;
import javax.tools.JavaCompiler;
import javax.tools.StandardJavaFileManager;
import javax.tools.ToolProvider;

/** LANGUAGE.md, rule by rule, as far as it can be read off the program's text. What a call does is for the other tests. */
public final class LanguageTest extends TreeScanner<Void, Void> {
    private static final Due due = new Due("LanguageTest");

    private static final Set<String> FACE = Set.of("strip", "tear", "put", "at", "copy", "ground", "kind", "taken", "tell",
        "rule", "ice", "years", "back", "steady", "cell", "layer", "sum", "about", "gives", "turn", "count");
    private static final Set<String> PLAIN_TYPES = Set.of("int", "long", "short", "byte", "char", "boolean", "void");
    private static final Set<String> LIBRARY = Set.of("Arrays.fill", "Math.min", "System.arraycopy");
    /** What rules 2, 6, 9 and 10 leave out, and what the program does without. */
    private static final Set<Tree.Kind> NEVER = Set.of(Tree.Kind.THROW, Tree.Kind.TRY, Tree.Kind.CATCH,
        Tree.Kind.SYNCHRONIZED, Tree.Kind.ASSERT, Tree.Kind.LAMBDA_EXPRESSION, Tree.Kind.MEMBER_REFERENCE,
        Tree.Kind.SWITCH_EXPRESSION, Tree.Kind.INSTANCE_OF, Tree.Kind.WHILE_LOOP, Tree.Kind.DO_WHILE_LOOP,
        Tree.Kind.ENHANCED_FOR_LOOP, Tree.Kind.STRING_LITERAL, Tree.Kind.DOUBLE_LITERAL, Tree.Kind.FLOAT_LITERAL,
        Tree.Kind.PARAMETERIZED_TYPE, Tree.Kind.ANNOTATION, Tree.Kind.PACKAGE, Tree.Kind.ENUM, Tree.Kind.RECORD,
        Tree.Kind.INTERFACE, Tree.Kind.UNSIGNED_RIGHT_SHIFT, Tree.Kind.LEFT_SHIFT, Tree.Kind.RIGHT_SHIFT);
    private static final int MOST_CLASSES = 12, MOST_FIELDS = 20, MOST_PARAMETERS = 7, MOST_LINES = 60, MOST_DEEP = 8;

    private final Set<String> own = new TreeSet<>();
    private final Map<String, Long> constants = new HashMap<>();
    /** Of each method, by its name: the names of the methods that it calls. A constructor is called as its class is. */
    private final Map<String, Set<String>> calls = new HashMap<>();
    private final Set<String> library = new TreeSet<>();
    private final Deque<ClassTree> classes = new ArrayDeque<>();
    private MethodTree method;

    public static void main(String[] args) throws IOException {
        Path program = Path.of(args.length == 1 ? args[0] : "src/main/java/GlacierYears.java");
        signs(Files.readString(program));
        CompilationUnitTree unit = parsed(program);
        LanguageTest rules = new LanguageTest();
        rules.oneClass(unit);
        rules.scan(unit, null);
        due.holds("rule 4: of the library " + rules.library, rules.library.equals(LIBRARY));
        due.holds("rule 11: classes", rules.own.size() <= MOST_CLASSES);
        for (String name : FACE) {
            int deep = rules.depth(name, 1);
            due.holds("rules 8, 11: " + name + " goes " + deep + " deep", deep <= MOST_DEEP);
        }
        due.end();
    }

    private static CompilationUnitTree parsed(Path program) throws IOException {
        JavaCompiler compiler = ToolProvider.getSystemJavaCompiler();
        try (StandardJavaFileManager files = compiler.getStandardFileManager(null, null, null)) {
            JavacTask task = (JavacTask) compiler.getTask(null, files, null, null, null, files.getJavaFileObjects(program));
            return task.parse().iterator().next();
        }
    }

    /** Rule 4: the signs of a text are 1 to 127. */
    private static void signs(String text) {
        boolean plain = true;
        for (int i = 0; i < text.length(); i++) plain &= text.charAt(i) >= 1 && text.charAt(i) <= 127;
        due.holds("rule 4: signs", plain);
        for (String line : text.split("\n")) due.holds("a line of up to 120: " + line, line.length() <= 120);
    }

    /** "one file, without a package line ...: one public class"; of imports that which rule 4 names alone. */
    private void oneClass(CompilationUnitTree unit) {
        due.holds("no package line", unit.getPackageName() == null);
        due.is("one class", unit.getTypeDecls().size(), 1);
        due.is("one import", unit.getImports().size(), 1);
        for (ImportTree imported : unit.getImports()) {
            due.holds("rule 4: " + imported, imported.getQualifiedIdentifier().toString().equals("java.util.Arrays") && !imported.isStatic());
        }
        ClassTree face = (ClassTree) unit.getTypeDecls().get(0);
        own.add(face.getSimpleName().toString());
        for (Tree member : face.getMembers()) {
            if (member instanceof ClassTree inside) own.add(inside.getSimpleName().toString());
            if (member instanceof VariableTree v && isConstant(v)) constants.put(v.getName().toString(), valueOf(v.getInitializer()));
        }
    }

    private static boolean isConstant(VariableTree v) {
        return v.getModifiers().getFlags().contains(Modifier.STATIC);
    }

    private Long valueOf(ExpressionTree e) {
        if (e instanceof LiteralTree literal && literal.getValue() instanceof Number n) return n.longValue();
        if (e instanceof IdentifierTree name) return constants.get(name.getName().toString());
        if (e instanceof UnaryTree minus && minus.getKind() == Tree.Kind.UNARY_MINUS) return -valueOf(minus.getExpression());
        if (e instanceof BinaryTree b && b.getKind() == Tree.Kind.PLUS) return valueOf(b.getLeftOperand()) + valueOf(b.getRightOperand());
        if (e instanceof BinaryTree b && b.getKind() == Tree.Kind.MULTIPLY) return valueOf(b.getLeftOperand()) * valueOf(b.getRightOperand());
        return null;
    }

    private String where() {
        return " in " + (method == null ? classes.peek().getSimpleName() : method.getName());
    }

    @Override
    public Void scan(Tree tree, Void none) {
        if (tree != null) due.holds("rules 2, 3, 6, 9, 10: no " + tree.getKind(), !NEVER.contains(tree.getKind()));
        return super.scan(tree, none);
    }

    /** Rules 1, 2, 5, 11. */
    @Override
    public Void visitClass(ClassTree c, Void none) {
        String name = c.getSimpleName().toString();
        boolean inside = !classes.isEmpty();
        due.holds("rule 2: " + name + " stands in the face alone", classes.size() <= 1 && method == null && !name.isEmpty());
        due.holds("rule 1: " + name, !inside || c.getModifiers().getFlags().equals(Set.of(Modifier.PRIVATE, Modifier.STATIC, Modifier.FINAL)));
        due.holds("rule 2: " + name + " extends none", c.getExtendsClause() == null && c.getImplementsClause().isEmpty());
        int fields = 0;
        for (Tree member : c.getMembers()) {
            if (member instanceof VariableTree v && !isConstant(v)) fields++;
            due.holds("rule 5: no initialiser block in " + name, member.getKind() != Tree.Kind.BLOCK);
        }
        due.holds("rule 11: fields of " + name, fields <= MOST_FIELDS);
        classes.push(c);
        super.visitClass(c, none);
        classes.pop();
        return null;
    }

    /** Rules 1, 6, 11. */
    @Override
    public Void visitMethod(MethodTree m, Void none) {
        String name = m.getName().toString();
        boolean open = m.getModifiers().getFlags().contains(Modifier.PUBLIC);
        boolean made = name.equals("<init>");
        due.holds("rule 1: " + name, made || open == FACE.contains(name));
        due.holds("rule 1: none but the face is open: " + name, !open || classes.size() == 1);
        due.holds("rule 6: " + name, !Set.of("equals", "hashCode", "toString").contains(name));
        due.holds("rule 11: parameters of " + name, m.getParameters().size() <= MOST_PARAMETERS);
        due.holds("rule 11: lines of " + name, m.toString().split("\n").length <= MOST_LINES);
        due.holds("no exceptions: " + name, m.getThrows().isEmpty());
        method = m;
        calls.computeIfAbsent(key(), k -> new TreeSet<>());
        super.visitMethod(m, none);
        method = null;
        return null;
    }

    /** Methods of one name are taken as one, which makes the way down no shorter. */
    private String key() {
        String name = method.getName().toString();
        return name.equals("<init>") ? classes.peek().getSimpleName().toString() : name;
    }

    /** Rules 3 and 5. */
    @Override
    public Void visitVariable(VariableTree v, Void none) {
        if (v.getType() != null) due.holds("rule 3: " + v, isPlain(v.getType()));
        if (isConstant(v)) {
            due.holds("rule 5: " + v, v.getModifiers().getFlags().contains(Modifier.FINAL));
            due.holds("rule 5: " + v + " is an int", v.getType().toString().equals("int") && valueOf(v.getInitializer()) != null);
        }
        return super.visitVariable(v, none);
    }

    /** Numbers, booleans, own classes, and rows of these. */
    private boolean isPlain(Tree type) {
        Tree of = type instanceof ArrayTypeTree row ? row.getType() : type;
        return PLAIN_TYPES.contains(of.toString()) || own.contains(of.toString());
    }

    /** Rule 6: only numbers are cast. */
    @Override
    public Void visitTypeCast(TypeCastTree cast, Void none) {
        due.holds("rule 6: " + cast, PLAIN_TYPES.contains(cast.getType().toString()));
        return super.visitTypeCast(cast, none);
    }

    /** Rule 7: a divisor is a constant, and not 0. */
    @Override
    public Void visitBinary(BinaryTree b, Void none) {
        if (b.getKind() == Tree.Kind.DIVIDE || b.getKind() == Tree.Kind.REMAINDER) divides(b, b.getRightOperand());
        return super.visitBinary(b, none);
    }

    @Override
    public Void visitCompoundAssignment(CompoundAssignmentTree a, Void none) {
        if (a.getKind() == Tree.Kind.DIVIDE_ASSIGNMENT || a.getKind() == Tree.Kind.REMAINDER_ASSIGNMENT) divides(a, a.getExpression());
        return super.visitCompoundAssignment(a, none);
    }

    private void divides(Tree tree, ExpressionTree divisor) {
        Long value = valueOf(divisor);
        due.holds("rule 7: " + tree + where(), value != null && value > 0);
    }

    /** Rule 9: a counter goes by one, up to what it is below of or down to 0, and is set by its own line alone. */
    @Override
    public Void visitForLoop(ForLoopTree loop, Void none) {
        VariableTree counter = (VariableTree) loop.getInitializer().get(0);
        String name = counter.getName().toString();
        String ends = loop.getCondition().toString();
        String steps = loop.getUpdate().get(0).getExpression().toString();
        boolean up = ends.matches(name + " <=? .*") && steps.equals(name + "++");
        boolean down = ends.matches(name + " >= 0( .*)?") && steps.equals(name + "--");
        due.holds("rule 9: " + ends + where(), up || down);
        boolean[] set = {false};
        new TreeScanner<Void, Void>() {
            @Override
            public Void visitAssignment(AssignmentTree a, Void none) {
                set[0] |= a.getVariable().toString().equals(name);
                return super.visitAssignment(a, none);
            }
        }.scan(loop.getStatement(), null);
        due.holds("rule 9: " + name + " is not set" + where(), !set[0]);
        return super.visitForLoop(loop, none);
    }

    /** Rules 4, 8, 11, 13. */
    @Override
    public Void visitMethodInvocation(MethodInvocationTree call, Void none) {
        String name = call.getMethodSelect().toString();
        String last = name.substring(name.lastIndexOf('.') + 1);
        if (Character.isUpperCase(name.charAt(0))) library.add(name);
        else if (method != null) calls.get(key()).add(last);
        return super.visitMethodInvocation(call, none);
    }

    /** Rule 12 and the room: all is made with the object, its rows in lengths that the text tells. */
    @Override
    public Void visitNewClass(NewClassTree made, Void none) {
        String name = made.getIdentifier().toString();
        due.holds("rule 2: " + made, made.getClassBody() == null && own.contains(name));
        due.holds("rule 12: " + made + where(), method == null || method.getName().contentEquals("<init>"));
        return super.visitNewClass(made, none);
    }

    @Override
    public Void visitNewArray(NewArrayTree made, Void none) {
        due.holds("rule 12: " + made + where(), method == null && made.getDimensions().size() == 1);
        for (ExpressionTree length : made.getDimensions()) {
            Long value = valueOf(length);
            due.holds("rule 7: " + made, value != null && value > 0 && value <= 64 * 61);
        }
        return super.visitNewArray(made, none);
    }

    /** How deep the calls below a method go; beyond the bound where they come back to one that stands open. */
    private int depth(String name, int above) {
        int deepest = above;
        if (above > MOST_DEEP) return above;
        for (String called : calls.getOrDefault(name, Set.of())) {
            due.holds("rule 8: " + called + " is a method of its own", calls.containsKey(called));
            deepest = Math.max(deepest, depth(called, above + 1));
        }
        return deepest;
    }
}
