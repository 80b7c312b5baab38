import com.sun.source.tree.ArrayTypeTree;
import com.sun.source.tree.ClassTree;
import com.sun.source.tree.CompilationUnitTree;
import com.sun.source.tree.ExpressionTree;
import com.sun.source.tree.ForLoopTree;
import com.sun.source.tree.MemberSelectTree;
import com.sun.source.tree.MethodInvocationTree;
import com.sun.source.tree.MethodTree;
import com.sun.source.tree.NewArrayTree;
import com.sun.source.tree.PrimitiveTypeTree;
import com.sun.source.tree.Tree;
import com.sun.source.tree.Tree.Kind;
import com.sun.source.tree.TypeCastTree;
import com.sun.source.tree.VariableTree;
import com.sun.source.util.JavacTask;
import com.sun.source.util.SourcePositions;
import com.sun.source.util.TreeScanner;
import com.sun.source.util.Trees;
import java.io.File;
import java.util.ArrayList;
import java.util.EnumSet;
import java.util.List;
import java.util.Map;
import java.util.Set;
import java.util.TreeMap;
import javax.lang.model.element.Modifier;
import javax.lang.model.type.TypeKind;
import javax.tools.JavaCompiler;
import javax.tools.StandardJavaFileManager;
import javax.tools.ToolProvider;

/**
 * The source of FleetDesk keeps to the rules of LANGUAGE.md, as far as they can be read off it. Where a rule leaves
 * more than the class needs, what the class does is due: its arrays are made by final fields, every loop is a for.
 */
public final class FleetDeskLanguage extends Checks {
    private static final String SOURCE = "src/main/java/FleetDesk.java";
    private static final int MOST_DEEP = 6;

    private static CompilationUnitTree unit;
    private static SourcePositions positions;
    private static ClassTree type;
    private static final Map<String, MethodTree> METHODS = new TreeMap<>();
    private static final Map<String, VariableTree> FIELDS = new TreeMap<>();

    public static void main(String[] args) throws Exception {
        read();
        oneClass();
        typesOfNumbers();
        noLibrary();
        arraysOfFields();
        constants();
        nothingForbidden();
        loopsWithAnEnd();
        noRecursion();
        shortAndFew();
        end();
    }

    private static void read() throws Exception {
        JavaCompiler compiler = ToolProvider.getSystemJavaCompiler();
        try (StandardJavaFileManager files = compiler.getStandardFileManager(null, null, null)) {
            JavacTask task = (JavacTask) compiler.getTask(
                    null, files, null, null, null, files.getJavaFileObjects(new File(SOURCE)));
            unit = task.parse().iterator().next();
            positions = Trees.instance(task).getSourcePositions();
        }
        type = (ClassTree) unit.getTypeDecls().get(0);
        for (Tree member : type.getMembers()) {
            if (member instanceof MethodTree method) {
                METHODS.put(method.getName().toString(), method);
            } else if (member instanceof VariableTree field) {
                FIELDS.put(field.getName().toString(), field);
            }
        }
    }

    /** The tree and all that stands inside it. */
    private static List<Tree> allOf(Tree tree) {
        List<Tree> found = new ArrayList<>();
        new TreeScanner<Void, Void>() {
            @Override
            public Void scan(Tree inner, Void nothing) {
                if (inner != null) {
                    found.add(inner);
                }
                return super.scan(inner, nothing);
            }
        }.scan(tree, null);
        return found;
    }

    private static List<MethodInvocationTree> callsIn(Tree tree) {
        List<MethodInvocationTree> calls = new ArrayList<>();
        for (Tree inner : allOf(tree)) {
            if (inner instanceof MethodInvocationTree call) {
                calls.add(call);
            }
        }
        return calls;
    }

    private static long line(long position) {
        return unit.getLineMap().getLineNumber(position);
    }

    private static String words(Tree tree) {
        return "line " + line(positions.getStartPosition(unit, tree)) + ", " + tree + ",";
    }

    private static void oneClass() {
        sentence("rules 1 and 3: one class without a package line, nothing imported, no member but methods and fields");
        due("package line", unit.getPackage() != null, false);
        due("number of imports", unit.getImports().size(), 0);
        due("number of classes", unit.getTypeDecls().size(), 1);
        // A name that two methods share would be counted once.
        due("number of members", type.getMembers().size(), METHODS.size() + FIELDS.size());
    }

    private static boolean isLeftType(Tree of) {
        if (of instanceof PrimitiveTypeTree primitive) {
            TypeKind kind = primitive.getPrimitiveTypeKind();
            return kind != TypeKind.FLOAT && kind != TypeKind.DOUBLE;
        }
        return false;
    }

    private static void typesOfNumbers() {
        sentence("rules 2, 4 and 6: whole numbers, booleans and one-dimensional arrays of these, no array answered");
        for (Tree tree : allOf(type)) {
            if (tree instanceof VariableTree variable) {
                Tree of = variable.getType() instanceof ArrayTypeTree array ? array.getType() : variable.getType();
                due(words(tree) + " is of a type left", isLeftType(of), true);
            } else if (tree instanceof MethodTree method && method.getReturnType() != null) {
                due(method.getName() + " answers a type left", isLeftType(method.getReturnType()), true);
            } else if (tree instanceof TypeCastTree cast) {
                due(words(tree) + " casts to a type left", isLeftType(cast.getType()), true);
            }
        }
    }

    private static void noLibrary() {
        sentence("rule 3: no class of the library, none of Object's methods");
        for (MethodInvocationTree call : callsIn(type)) {
            due(words(call) + " calls a method of the class", METHODS.containsKey("" + call.getMethodSelect()), true);
        }
        for (Tree tree : allOf(type)) {
            if (tree instanceof MemberSelectTree select) {
                boolean isField = select.getExpression().toString().equals("this");
                boolean isLength = select.getIdentifier().contentEquals("length");
                due(words(tree) + " is a field or a length", isField || isLength, true);
            }
        }
    }

    private static void arraysOfFields() {
        sentence("rule 4: arrays are made by final fields, with a length that is a literal or a constant");
        int made = 0;
        for (VariableTree field : FIELDS.values()) {
            if (field.getType() instanceof ArrayTypeTree) {
                due(words(field) + " is final", field.getModifiers().getFlags().contains(Modifier.FINAL), true);
            }
            if (field.getInitializer() instanceof NewArrayTree array) {
                made++;
                due(words(field) + " has one length", array.getDimensions().size(), 1);
                due(words(field) + " has a constant length", isConstant(array.getDimensions().get(0)), true);
            }
        }
        long all = allOf(type).stream().filter(tree -> tree instanceof NewArrayTree).count();
        due("number of arrays made", (int) all, made);
    }

    private static boolean isConstant(ExpressionTree length) {
        VariableTree field = FIELDS.get(length.toString());
        return length.getKind() == Kind.INT_LITERAL
                || field != null && field.getModifiers().getFlags().contains(Modifier.STATIC);
    }

    private static void constants() {
        sentence("rule 5: static fields are constants, whose values name no method");
        for (VariableTree field : FIELDS.values()) {
            Set<Modifier> flags = field.getModifiers().getFlags();
            if (flags.contains(Modifier.STATIC)) {
                due(words(field) + " is final", flags.contains(Modifier.FINAL), true);
                due(words(field) + " has a value", field.getInitializer() != null, true);
                due(words(field) + " calls", callsIn(field).size(), 0);
            }
        }
    }

    private static void nothingForbidden() {
        sentence("rules 2, 4 and 6: no text, no fraction, no null, no object made, nothing that throws");
        Set<Kind> forbidden = EnumSet.of(
                Kind.STRING_LITERAL, Kind.FLOAT_LITERAL, Kind.DOUBLE_LITERAL, Kind.NULL_LITERAL, Kind.NEW_CLASS,
                Kind.THROW, Kind.TRY, Kind.CATCH, Kind.SYNCHRONIZED, Kind.ASSERT, Kind.INSTANCE_OF,
                Kind.LAMBDA_EXPRESSION, Kind.MEMBER_REFERENCE);
        for (Tree tree : allOf(type)) {
            due(tree.getKind() + " is forbidden", forbidden.contains(tree.getKind()), false);
        }
    }

    private static void loopsWithAnEnd() {
        sentence("rule 8: every loop is a counter against a bound");
        Set<Kind> others = EnumSet.of(Kind.WHILE_LOOP, Kind.DO_WHILE_LOOP, Kind.ENHANCED_FOR_LOOP);
        for (Tree tree : allOf(type)) {
            due(tree.getKind() + " is another loop", others.contains(tree.getKind()), false);
            if (tree instanceof ForLoopTree loop) {
                due(words(tree) + " has a bound", loop.getCondition() != null, true);
                due(words(tree) + " counts", loop.getUpdate().size() == 1 && !changesItsCounter(loop), true);
            }
        }
    }

    /** Whether the loop's counter is changed by its body too. */
    private static boolean changesItsCounter(ForLoopTree loop) {
        String counter = loop.getUpdate().get(0).toString().replaceAll("\\W", "");
        return loop.getStatement().toString().matches("(?s).*\\b" + counter + "(\\+\\+|--| [-+*/%&|^<>]*= ).*");
    }

    private static void noRecursion() {
        sentence("rules 8 and 10: no recursion, calls at most six deep, no call inside the arguments of another");
        for (String name : METHODS.keySet()) {
            due(name + " goes six deep or less", depthOf(name, 1) <= MOST_DEEP, true);
        }
        for (MethodInvocationTree call : callsIn(type)) {
            for (ExpressionTree argument : call.getArguments()) {
                due(words(call) + " has calls as arguments", callsIn(argument).size(), 0);
            }
        }
    }

    /** How deep the longest chain of calls goes that reaches this method at that depth; recursion is too deep. */
    private static int depthOf(String name, int depth) {
        int deepest = depth;
        for (MethodInvocationTree call : callsIn(METHODS.get(name))) {
            String called = call.getMethodSelect().toString();
            if (depth <= MOST_DEEP && METHODS.containsKey(called)) {
                deepest = Math.max(deepest, depthOf(called, depth + 1));
            }
        }
        return deepest;
    }

    private static void shortAndFew() {
        sentence("rule 10: at most seven parameters, some sixty lines and some forty fields");
        for (MethodTree method : METHODS.values()) {
            long first = line(positions.getStartPosition(unit, method));
            long last = line(positions.getEndPosition(unit, method));
            due(method.getName() + " has sixty lines or fewer", last - first < 60, true);
            due(method.getName() + " has seven parameters or fewer", method.getParameters().size() <= 7, true);
        }
        due("forty fields or fewer", FIELDS.size() <= 40, true);
    }
}
