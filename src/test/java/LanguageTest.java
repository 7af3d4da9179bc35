import com.sun.source.tree.AnnotationTree;
import com.sun.source.tree.ArrayAccessTree;
import com.sun.source.tree.ArrayTypeTree;
import com.sun.source.tree.AssignmentTree;
import com.sun.source.tree.BinaryTree;
import com.sun.source.tree.BlockTree;
import com.sun.source.tree.ClassTree;
import com.sun.source.tree.CompilationUnitTree;
import com.sun.source.tree.CompoundAssignmentTree;
import com.sun.source.tree.ExpressionStatementTree;
import com.sun.source.tree.ExpressionTree;
import com.sun.source.tree.ForLoopTree;
import com.sun.source.tree.IdentifierTree;
import com.sun.source.tree.LiteralTree;
import com.sun.source.tree.MemberSelectTree;
import com.sun.source.tree.MethodInvocationTree;
import com.sun.source.tree.MethodTree;
import com.sun.source.tree.NewArrayTree;
import com.sun.source.tree.ParenthesizedTree;
import com.sun.source.tree.PrimitiveTypeTree;
import com.sun.source.tree.ReturnTree;
import com.sun.source.tree.StatementTree;
import com.sun.source.tree.Tree;
import com.sun.source.tree.Tree.Kind;
import com.sun.source.tree.TypeCastTree;
import com.sun.source.tree.UnaryTree;
import com.sun.source.tree.VariableTree;
import com.sun.source.util.JavacTask;
import com.sun.source.util.SourcePositions;
import com.sun.source.util.TreeScanner;
import com.sun.source.util.Trees;
import java.io.IOException;
import java.nio.file.Path;
import java.util.ArrayList;
import java.util.EnumSet;
import java.util.HashMap;
import java.util.HashSet;
import java.util.List;
import java.util.Map;
import java.util.Set;
import java.util.TreeSet;
import javax.lang.model.element.Modifier;
import javax.lang.model.type.TypeKind;
import javax.tools.JavaCompiler;
import javax.tools.StandardJavaFileManager;
import javax.tools.ToolProvider;

/**
 * The class keeps to the rules of LANGUAGE.md, as far as its text alone shows it. Where a rule leaves room, this asks
 * for the plain way that the class goes: arrays in the fields' initialisers, no local arrays, counting for loops.
 * FaceTest has the face of rule 1; that no call throws (rule 7) BoundaryTest and ModelTest show by calls.
 */
public final class LanguageTest {
    private static final Set<TypeKind> NUMBERS = EnumSet.of(TypeKind.INT, TypeKind.LONG, TypeKind.SHORT, TypeKind.BYTE,
            TypeKind.CHAR, TypeKind.BOOLEAN);
    private static final Set<Kind> NUMBER_LITERALS = EnumSet.of(Kind.INT_LITERAL, Kind.LONG_LITERAL, Kind.CHAR_LITERAL,
            Kind.BOOLEAN_LITERAL);
    private static final Set<Kind> RULED_OUT = EnumSet.of(Kind.THROW, Kind.TRY, Kind.SYNCHRONIZED, Kind.ASSERT,
            Kind.INSTANCE_OF, Kind.LAMBDA_EXPRESSION, Kind.MEMBER_REFERENCE, Kind.NEW_CLASS);
    private static final Set<Kind> OTHER_LOOPS = EnumSet.of(Kind.WHILE_LOOP, Kind.DO_WHILE_LOOP,
            Kind.ENHANCED_FOR_LOOP);
    private static final Set<Kind> DIVISIONS = EnumSet.of(Kind.DIVIDE, Kind.REMAINDER, Kind.DIVIDE_ASSIGNMENT,
            Kind.REMAINDER_ASSIGNMENT);
    private static final Set<Kind> STEPS = EnumSet.of(Kind.PREFIX_INCREMENT, Kind.PREFIX_DECREMENT,
            Kind.POSTFIX_INCREMENT, Kind.POSTFIX_DECREMENT);

    private static final int MOST_PARAMETERS = 7;
    private static final int MOST_LINES = 60;
    private static final int MOST_CALLS_DEEP = 6;
    private static final int MOST_FIELDS = 40;

    private final CompilationUnitTree unit;
    private final SourcePositions places;
    private final Map<String, MethodTree> methods = new HashMap<>();
    private final Map<String, Set<String>> calls = new HashMap<>();
    private final Set<String> constants = new HashSet<>();
    private final Set<String> arrays = new HashSet<>();
    private final Set<VariableTree> arrayPlaces = new HashSet<>();
    private int wrong = 0;

    private LanguageTest(CompilationUnitTree unit, SourcePositions places) {
        this.unit = unit;
        this.places = places;
    }

    private long line(long place) {
        return unit.getLineMap().getLineNumber(place);
    }

    private void due(int rule, Tree at, boolean kept, String words) {
        if (!kept) {
            wrong++;
            System.out.println("rule " + rule + ", line " + line(places.getStartPosition(unit, at)) + ": " + words);
        }
    }

    // ---- the members

    private static boolean isNumber(Tree type) {
        return type instanceof PrimitiveTypeTree && NUMBERS.contains(((PrimitiveTypeTree) type).getPrimitiveTypeKind());
    }

    private static boolean isArray(Tree type) {
        return type instanceof ArrayTypeTree && isNumber(((ArrayTypeTree) type).getType());
    }

    private static boolean isIntOrLong(Tree type) {
        String name = type.toString();
        return name.equals("int") || name.equals("long");
    }

    /** Built of literals, of constants named before and of operators alone. */
    private boolean isConstant(ExpressionTree value) {
        boolean[] plain = {value != null};
        new TreeScanner<Void, Void>() {
            @Override
            public Void scan(Tree tree, Void none) {
                boolean fits = tree == null || tree instanceof LiteralTree || tree instanceof BinaryTree
                        || tree instanceof UnaryTree || tree instanceof ParenthesizedTree
                        || tree instanceof IdentifierTree && constants.contains(tree.toString());
                plain[0] = plain[0] && fits;
                return super.scan(tree, none);
            }
        }.scan(value, null);
        return plain[0];
    }

    private void checkStaticField(VariableTree field) {
        boolean kept = field.getModifiers().getFlags().contains(Modifier.FINAL) && isIntOrLong(field.getType())
                && isConstant(field.getInitializer());
        due(5, field, kept, "a static field that is no constant of int or long");
        constants.add(field.getName().toString());
    }

    private void nameArray(VariableTree variable) {
        arrays.add(variable.getName().toString());
        arrayPlaces.add(variable);
    }

    private void checkField(VariableTree field) {
        Set<Modifier> flags = field.getModifiers().getFlags();
        due(1, field, flags.contains(Modifier.PRIVATE), "a field that is not private");
        if (!isArray(field.getType())) {
            return;
        }
        nameArray(field);
        due(4, field, flags.contains(Modifier.FINAL), "an array field that is not final");
        due(4, field, field.getInitializer() instanceof NewArrayTree, "an array that its field does not make");
    }

    private void checkMadeArray(NewArrayTree made) {
        boolean plain = made.getInitializers() == null && made.getDimensions().size() == 1
                && isConstant(made.getDimensions().get(0));
        due(4, made, plain, "an array whose length is no constant");
    }

    private void checkMethod(MethodTree method) {
        String name = method.getName().toString();
        due(1, method, methods.put(name, method) == null, "a second method " + name);
        due(10, method, method.getParameters().size() <= MOST_PARAMETERS, name + " takes too many parameters");
        long first = line(places.getStartPosition(unit, method));
        long last = line(places.getEndPosition(unit, method));
        due(10, method, last - first < MOST_LINES, name + " is too long");
        due(4, method, method.getReturnType() == null || !(method.getReturnType() instanceof ArrayTypeTree),
                name + " answers an array");
        for (VariableTree parameter : method.getParameters()) {
            if (isArray(parameter.getType())) {
                nameArray(parameter);
                due(4, method, method.getModifiers().getFlags().contains(Modifier.PRIVATE), name + " takes an array");
            }
        }
    }

    private void checkMembers(ClassTree type) {
        Set<Modifier> flags = type.getModifiers().getFlags();
        due(1, type, flags.contains(Modifier.PUBLIC) && flags.contains(Modifier.FINAL), "not public and final");
        due(1, type, type.getExtendsClause() == null && type.getImplementsClause().isEmpty(), "a class above it");
        int fields = 0;
        for (Tree member : type.getMembers()) {
            due(5, member, !(member instanceof BlockTree), "an initialiser");
            if (member instanceof MethodTree) {
                checkMethod((MethodTree) member);
            }
            if (member instanceof VariableTree) {
                VariableTree field = (VariableTree) member;
                if (field.getModifiers().getFlags().contains(Modifier.STATIC)) {
                    checkStaticField(field);
                } else {
                    checkField(field);
                    fields++;
                }
            }
        }
        due(10, type, fields <= MOST_FIELDS, "too many fields");
    }

    // ---- what stands in the members

    private boolean namesArray(Tree tree) {
        Tree bare = tree;
        while (bare instanceof ParenthesizedTree) {
            bare = ((ParenthesizedTree) bare).getExpression();
        }
        String name = bare instanceof MemberSelectTree ? ((MemberSelectTree) bare).getIdentifier().toString()
                : String.valueOf(bare);
        return arrays.contains(name);
    }

    private static String counterOf(ForLoopTree loop) {
        List<? extends StatementTree> start = loop.getInitializer();
        boolean one = start.size() == 1 && start.get(0) instanceof VariableTree;
        return one ? ((VariableTree) start.get(0)).getName().toString() : "";
    }

    private static String boundOf(ForLoopTree loop) {
        Tree condition = loop.getCondition();
        return condition instanceof BinaryTree ? ((BinaryTree) condition).getRightOperand().toString() : "";
    }

    /** Starts at a number, goes on by one up to a bound: for (int x = ..; x < ..; x++). */
    private static boolean counts(ForLoopTree loop) {
        String counter = counterOf(loop);
        Tree condition = loop.getCondition();
        List<? extends ExpressionStatementTree> update = loop.getUpdate();
        return !counter.isEmpty() && condition instanceof BinaryTree && condition.getKind() == Kind.LESS_THAN
                && ((BinaryTree) condition).getLeftOperand().toString().equals(counter) && update.size() == 1
                && update.get(0).toString().replace(";", "").equals(counter + "++");
    }

    /** Everything that stands in the class, with the method in which it stands ("" for fields). */
    private final class Finder extends TreeScanner<Void, String> {
        // The counters and bounds of the loops around; one bound can be that of several.
        private final List<String> fixed = new ArrayList<>();
        private int classes = 0;
        private int inArguments = 0;

        @Override
        public Void scan(Tree tree, String method) {
            if (tree != null) {
                Kind kind = tree.getKind();
                due(6, tree, !RULED_OUT.contains(kind), "a " + kind);
                due(7, tree, !DIVISIONS.contains(kind), "a divisor that may be 0");
                due(8, tree, !OTHER_LOOPS.contains(kind), "a loop that does not count");
            }
            return super.scan(tree, method);
        }

        @Override
        public Void visitClass(ClassTree tree, String method) {
            classes++;
            due(1, tree, classes == 1 && tree.getKind() == Kind.CLASS, "a second class");
            return super.visitClass(tree, method);
        }

        @Override
        public Void visitMethod(MethodTree tree, String method) {
            Tree answer = tree.getReturnType();
            due(2, tree, answer == null || answer.toString().equals("void") || isNumber(answer), "answers a " + answer);
            due(6, tree, tree.getThrows().isEmpty(), "a throws clause");
            String name = tree.getName().toString();
            calls.put(name, new TreeSet<>());
            scan(tree.getModifiers(), name);
            scan(tree.getParameters(), name);
            return scan(tree.getBody(), name);
        }

        @Override
        public Void visitVariable(VariableTree tree, String method) {
            Tree type = tree.getType();
            due(2, tree, isNumber(type) || isArray(type), "a variable of type " + type);
            due(4, tree, !isArray(type) || arrayPlaces.contains(tree), "a local variable that names an array");
            return super.visitVariable(tree, method);
        }

        @Override
        public Void visitAnnotation(AnnotationTree tree, String method) {
            due(3, tree, false, "an annotation");
            return super.visitAnnotation(tree, method);
        }

        @Override
        public Void visitLiteral(LiteralTree tree, String method) {
            due(2, tree, NUMBER_LITERALS.contains(tree.getKind()), "a " + tree.getKind());
            return super.visitLiteral(tree, method);
        }

        @Override
        public Void visitTypeCast(TypeCastTree tree, String method) {
            due(6, tree, isNumber(tree.getType()), "a cast of a reference");
            return super.visitTypeCast(tree, method);
        }

        @Override
        public Void visitMemberSelect(MemberSelectTree tree, String method) {
            String name = tree.getIdentifier().toString();
            boolean own = tree.getExpression().toString().equals("this");
            due(3, tree, own || name.equals("length") && namesArray(tree.getExpression()), "a member of another class");
            return super.visitMemberSelect(tree, method);
        }

        @Override
        public Void visitMethodInvocation(MethodInvocationTree tree, String method) {
            String called = tree.getMethodSelect().toString();
            due(3, tree, methods.containsKey(called), "a call of " + called + ", which is not this class's own");
            due(10, tree, inArguments == 0, "a call inside the arguments of another one");
            due(4, tree, !method.isEmpty(), "a call in a field's initialiser");
            calls.computeIfAbsent(method, name -> new TreeSet<>()).add(called);
            inArguments++;
            scan(tree.getArguments(), method);
            inArguments--;
            return null;
        }

        @Override
        public Void visitNewArray(NewArrayTree tree, String method) {
            due(4, tree, method.isEmpty(), "a method that makes an array");
            checkMadeArray(tree);
            return super.visitNewArray(tree, method);
        }

        @Override
        public Void visitReturn(ReturnTree tree, String method) {
            due(4, tree, !namesArray(tree.getExpression()), "an array is answered");
            return super.visitReturn(tree, method);
        }

        @Override
        public Void visitBinary(BinaryTree tree, String method) {
            due(4, tree, !namesArray(tree.getLeftOperand()) && !namesArray(tree.getRightOperand()),
                    "an array is compared");
            return super.visitBinary(tree, method);
        }

        private void checkTarget(Tree target) {
            due(4, target, !namesArray(target), "an array is given to a variable");
            due(8, target, !fixed.contains(target.toString()), "a loop's counter or bound is changed in it");
        }

        @Override
        public Void visitAssignment(AssignmentTree tree, String method) {
            checkTarget(tree.getVariable());
            return super.visitAssignment(tree, method);
        }

        @Override
        public Void visitCompoundAssignment(CompoundAssignmentTree tree, String method) {
            checkTarget(tree.getVariable());
            return super.visitCompoundAssignment(tree, method);
        }

        @Override
        public Void visitUnary(UnaryTree tree, String method) {
            if (STEPS.contains(tree.getKind())) {
                checkTarget(tree.getExpression());
            }
            return super.visitUnary(tree, method);
        }

        @Override
        public Void visitForLoop(ForLoopTree tree, String method) {
            due(8, tree, counts(tree), "a loop that does not count");
            scan(tree.getInitializer(), method);
            scan(tree.getCondition(), method);
            fixed.add(counterOf(tree));
            fixed.add(boundOf(tree));
            scan(tree.getStatement(), method);
            fixed.remove(boundOf(tree));
            fixed.remove(counterOf(tree));
            return null;
        }

        @Override
        public Void visitArrayAccess(ArrayAccessTree tree, String method) {
            due(3, tree, namesArray(tree.getExpression()), "an index into no array of this class");
            return super.visitArrayAccess(tree, method);
        }
    }

    // ---- how deep calls go

    private Set<String> reached(String method) {
        Set<String> found = new TreeSet<>();
        List<String> open = new ArrayList<>(List.of(method));
        while (!open.isEmpty()) {
            for (String called : calls.getOrDefault(open.remove(0), Set.of())) {
                if (found.add(called)) {
                    open.add(called);
                }
            }
        }
        return found;
    }

    /** How many methods stand on one another when this one is called; bound ends it where there is recursion. */
    private int callsDeep(String method, int bound) {
        int deepest = 0;
        for (String called : calls.getOrDefault(method, Set.of())) {
            if (bound > 0) {
                deepest = Math.max(deepest, callsDeep(called, bound - 1));
            }
        }
        return deepest + 1;
    }

    private void checkCallDepth() {
        for (Map.Entry<String, MethodTree> method : methods.entrySet()) {
            String name = method.getKey();
            due(8, method.getValue(), !reached(name).contains(name), name + " calls itself");
            due(10, method.getValue(), callsDeep(name, MOST_CALLS_DEEP) <= MOST_CALLS_DEEP, name + " goes too deep");
        }
    }

    private void checkAll() {
        due(1, unit, unit.getPackageName() == null, "a package line");
        due(3, unit, unit.getImports().isEmpty(), "an import");
        due(1, unit, unit.getTypeDecls().size() == 1, "not one class");
        ClassTree type = (ClassTree) unit.getTypeDecls().get(0);
        due(1, type, type.getSimpleName().contentEquals("GameValues"), "another name");
        checkMembers(type);
        new Finder().scan(type, "");
        checkCallDepth();
    }

    public static void main(String[] args) throws IOException {
        Path program = Path.of(args.length > 0 ? args[0] : "src/main/java/GameValues.java");
        JavaCompiler compiler = ToolProvider.getSystemJavaCompiler();
        try (StandardJavaFileManager files = compiler.getStandardFileManager(null, null, null)) {
            JavacTask task = (JavacTask) compiler.getTask(null, files, null, List.of("--release", "17"), null,
                    files.getJavaFileObjects(program));
            CompilationUnitTree unit = task.parse().iterator().next();
            LanguageTest test = new LanguageTest(unit, Trees.instance(task).getSourcePositions());
            test.checkAll();
            System.out.println(test.wrong == 0 ? "the rules are kept" : test.wrong + " breaches of the rules");
            if (test.wrong != 0) {
                System.exit(1);
            }
        }
    }
}
