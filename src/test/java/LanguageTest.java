import com.sun.source.tree.*;
import com.sun.source.util.JavacTask;
import com.sun.source.util.TreeScanner;
import java.nio.file.Path;
import java.util.ArrayList;
import java.util.EnumSet;
import java.util.HashSet;
import java.util.List;
import java.util.Map;
import java.util.Set;
import java.util.TreeMap;
import java.util.TreeSet;
import javax.lang.model.element.Modifier;
import javax.lang.model.type.TypeKind;
import javax.tools.JavaCompiler;
import javax.tools.StandardJavaFileManager;
import javax.tools.ToolProvider;

/** The rules of LANGUAGE.md that can be seen from the program's text; each finding is printed with the rule's number. */
public final class LanguageTest extends TreeScanner<Void, Void> {
    private static final Path PROGRAM = Path.of("src/main/java/TimedStreams.java");
    private static final int MOST_FIELDS = 40, MOST_LINES = 60, MOST_PARAMETERS = 7, MOST_DEPTH = 6;
    private static final Set<Tree.Kind> FORBIDDEN = EnumSet.of(Tree.Kind.THROW, Tree.Kind.TRY, Tree.Kind.SYNCHRONIZED,
            Tree.Kind.ASSERT, Tree.Kind.INSTANCE_OF, Tree.Kind.LAMBDA_EXPRESSION, Tree.Kind.MEMBER_REFERENCE);

    private final Set<String> findings = new TreeSet<>();
    private final Map<String, Set<String>> callsOf = new TreeMap<>();
    private final Set<String> constants = new HashSet<>();
    private final Set<String> arrayFields = new HashSet<>();
    private LineMap lines;
    private JavacTask task;
    private CompilationUnitTree unit;
    private String method = "";
    private int fields = 0;
    private boolean isInFieldInitialiser = false;

    public static void main(String[] args) throws Exception {
        Due due = new Due();
        LanguageTest test = new LanguageTest();
        test.read();
        due.same("findings", String.join("; ", test.findings), "");
        // A program that was not read at all has no findings either.
        due.same("methods were read", test.callsOf.size() > 16, true);
        due.end();
    }

    private void read() throws Exception {
        JavaCompiler compiler = ToolProvider.getSystemJavaCompiler();
        try (StandardJavaFileManager files = compiler.getStandardFileManager(null, null, null)) {
            task = (JavacTask) compiler.getTask(null, files, null, null, null, files.getJavaFileObjects(PROGRAM));
            for (CompilationUnitTree read : task.parse()) {
                unit = read;
                lines = read.getLineMap();
                readUnit();
            }
        }
        for (String name : callsOf.keySet()) {
            int depth = depth(name, new ArrayList<>());
            check(depth <= MOST_DEPTH, 10, "calls go " + depth + " deep from " + name);
        }
        check(fields <= MOST_FIELDS, 10, fields + " fields");
    }

    private void readUnit() {
        check(unit.getPackage() == null, 1, "a package line");
        check(unit.getImports().isEmpty(), 3, "an import");
        check(unit.getTypeDecls().size() == 1, 1, "not one class");
        ClassTree program = (ClassTree) unit.getTypeDecls().get(0);
        Set<String> methods = new HashSet<>();
        for (Tree member : program.getMembers()) {
            check(member instanceof MethodTree || member instanceof VariableTree, 1, "a member " + member.getKind());
            if (member instanceof MethodTree m) {
                check(methods.add(m.getName().toString()), 1, "two methods " + m.getName());
            } else if (member instanceof VariableTree f) {
                noteField(f);
            }
        }
        for (Tree member : program.getMembers()) {
            isInFieldInitialiser = member instanceof VariableTree;
            scan(member, null);
        }
    }

    private void noteField(VariableTree f) {
        Set<Modifier> is = f.getModifiers().getFlags();
        if (is.contains(Modifier.STATIC)) {
            String type = f.getType().toString();
            check(is.contains(Modifier.FINAL) && (type.equals("int") || type.equals("long")), 5, "static " + f.getName());
            constants.add(f.getName().toString());
            return;
        }
        fields++;
        if (f.getType().getKind() == Tree.Kind.ARRAY_TYPE) {
            arrayFields.add(f.getName().toString());
            check(is.contains(Modifier.FINAL), 4, "array field " + f.getName() + " is not final");
        }
    }

    @Override
    public Void scan(Tree tree, Void none) {
        if (tree != null) {
            check(!FORBIDDEN.contains(tree.getKind()), 6, tree.getKind() + " in " + method);
            check(tree.getKind() != Tree.Kind.NULL_LITERAL, 4, "null in " + method);
            check(tree.getKind() != Tree.Kind.STRING_LITERAL, 2, "a String in " + method);
            check(!(tree instanceof ClassTree), 1, "a class in " + method);
        }
        return super.scan(tree, none);
    }

    @Override
    public Void visitMethod(MethodTree m, Void none) {
        method = m.getName().toString();
        callsOf.put(method, new TreeSet<>());
        long first = lines.getLineNumber(start(m));
        long last = lines.getLineNumber(end(m));
        check(last - first < MOST_LINES, 10, method + " has " + (last - first + 1) + " lines");
        check(m.getParameters().size() <= MOST_PARAMETERS, 10, method + " takes " + m.getParameters().size());
        check(m.getReturnType() == null || isNumber(m.getReturnType(), true), 2, method + " answers " + m.getReturnType());
        return super.visitMethod(m, none);
    }

    private long start(Tree tree) {
        return positions().getStartPosition(unit, tree);
    }

    private long end(Tree tree) {
        return positions().getEndPosition(unit, tree) - 1;
    }

    private com.sun.source.util.SourcePositions positions() {
        return com.sun.source.util.Trees.instance(task).getSourcePositions();
    }

    @Override
    public Void visitVariable(VariableTree v, Void none) {
        Tree type = v.getType();
        boolean isArray = type instanceof ArrayTypeTree;
        Tree held = isArray ? ((ArrayTypeTree) type).getType() : type;
        check(isNumber(held, false), 2, v.getName() + " is " + type);
        return super.visitVariable(v, none);
    }

    private static boolean isNumber(Tree type, boolean orVoid) {
        if (!(type instanceof PrimitiveTypeTree p)) {
            return false;
        }
        TypeKind kind = p.getPrimitiveTypeKind();
        return kind == TypeKind.VOID ? orVoid : kind != TypeKind.FLOAT && kind != TypeKind.DOUBLE;
    }

    @Override
    public Void visitNewArray(NewArrayTree made, Void none) {
        boolean isFine = isInFieldInitialiser && made.getDimensions().size() == 1 && isConstant(made.getDimensions().get(0));
        check(isFine, 4, "array " + made);
        return super.visitNewArray(made, none);
    }

    private boolean isConstant(ExpressionTree length) {
        return length instanceof LiteralTree || length instanceof IdentifierTree && constants.contains(length.toString());
    }

    @Override
    public Void visitNewClass(NewClassTree made, Void none) {
        check(false, 2, "object " + made);
        return super.visitNewClass(made, none);
    }

    @Override
    public Void visitMemberSelect(MemberSelectTree select, Void none) {
        check(false, 3, "member " + select);
        return super.visitMemberSelect(select, none);
    }

    @Override
    public Void visitTypeCast(TypeCastTree cast, Void none) {
        check(isNumber(cast.getType(), false), 6, "cast " + cast);
        return super.visitTypeCast(cast, none);
    }

    @Override
    public Void visitAssignment(AssignmentTree to, Void none) {
        check(!arrayFields.contains(to.getVariable().toString()), 4, "assignment " + to);
        return super.visitAssignment(to, none);
    }

    @Override
    public Void visitMethodInvocation(MethodInvocationTree call, Void none) {
        String called = call.getMethodSelect().toString();
        if (!called.equals("super")) {
            callsOf.get(method).add(called);
        }
        for (ExpressionTree argument : call.getArguments()) {
            new TreeScanner<Void, Void>() {
                @Override
                public Void visitMethodInvocation(MethodInvocationTree inner, Void nothing) {
                    check(false, 10, inner + " inside the arguments of " + called);
                    return null;
                }
            }.scan(argument, null);
        }
        return super.visitMethodInvocation(call, none);
    }

    @Override
    public Void visitForLoop(ForLoopTree loop, Void none) {
        boolean isBounded = loop.getUpdate().size() == 1 && loop.getInitializer().size() == 1 && loop.getCondition() != null;
        if (isBounded && loop.getInitializer().get(0) instanceof VariableTree counter) {
            checkCounter(loop, counter.getName().toString());
        } else {
            check(false, 8, "a loop without a counter in " + method);
        }
        return super.visitForLoop(loop, none);
    }

    /** The counter stands in the condition, goes by one, and nothing in the loop sets it otherwise. */
    private void checkCounter(ForLoopTree loop, String counter) {
        String condition = loop.getCondition().toString();
        String update = loop.getUpdate().get(0).toString();
        boolean goesUp = condition.startsWith(counter + " <") && update.equals(counter + "++;");
        boolean goesDown = condition.startsWith(counter + " >") && update.equals(counter + "--;");
        check(goesUp || goesDown, 8, "loop over " + counter + " in " + method);
        String body = loop.getStatement().toString();
        boolean isSet = body.matches("(?s).*\\b" + counter + " ?([-+*/]?=[^=]|\\+\\+|--).*");
        check(!isSet, 8, counter + " is set inside its loop in " + method);
    }

    @Override
    public Void visitWhileLoop(WhileLoopTree loop, Void none) {
        check(false, 8, "a while loop, its counter is not looked at, in " + method);
        return super.visitWhileLoop(loop, none);
    }

    @Override
    public Void visitDoWhileLoop(DoWhileLoopTree loop, Void none) {
        check(false, 8, "a do loop, its counter is not looked at, in " + method);
        return super.visitDoWhileLoop(loop, none);
    }

    private int depth(String name, List<String> users) {
        if (users.contains(name)) {
            check(false, 8, "recursion through " + name);
            return 0;
        }
        check(callsOf.containsKey(name), 3, name + " is not a method of the class");
        users.add(name);
        int deepest = 0;
        for (String called : callsOf.getOrDefault(name, Set.of())) {
            deepest = Math.max(deepest, depth(called, users));
        }
        users.remove(name);
        return deepest + 1;
    }

    private void check(boolean holds, int rule, String what) {
        if (!holds) {
            findings.add("rule " + rule + ": " + what);
        }
    }
}
