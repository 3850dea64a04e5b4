import com.sun.source.tree.*;
import com.sun.source.util.JavacTask;
import com.sun.source.util.SourcePositions;
import com.sun.source.util.TreeScanner;
import com.sun.source.util.Trees;
import java.io.IOException;
import java.nio.file.Path;
import java.util.EnumSet;
import java.util.HashSet;
import java.util.List;
import java.util.Map;
import java.util.Set;
import java.util.TreeMap;
import java.util.TreeSet;
import javax.lang.model.element.Modifier;
import javax.lang.model.type.TypeKind;
import javax.tools.JavaCompiler;
import javax.tools.StandardJavaFileManager;
import javax.tools.ToolProvider;

/** The rules of LANGUAGE.md that can be seen in the source; rule 7 is left to the other tests. */
public final class FormTest {
    private static final Path SOURCE = Path.of("src/main/java/MachineTwins.java");
    private static final int MOST_LINES = 60;
    private static final int MOST_PARAMETERS = 7;
    private static final int MOST_FIELDS = 40;
    private static final int DEEPEST_CALL = 6;

    private static final Set<TypeKind> NUMBERS = EnumSet.of(
            TypeKind.INT, TypeKind.LONG, TypeKind.SHORT, TypeKind.BYTE, TypeKind.CHAR, TypeKind.BOOLEAN);

    /** Kinds of tree that no rule leaves a use for; the number is the rule's. */
    private static final Map<Tree.Kind, Integer> FORBIDDEN = Map.ofEntries(
            Map.entry(Tree.Kind.PACKAGE, 1), Map.entry(Tree.Kind.INTERFACE, 1), Map.entry(Tree.Kind.ENUM, 1),
            Map.entry(Tree.Kind.RECORD, 1), Map.entry(Tree.Kind.STRING_LITERAL, 2),
            Map.entry(Tree.Kind.FLOAT_LITERAL, 2), Map.entry(Tree.Kind.DOUBLE_LITERAL, 2),
            Map.entry(Tree.Kind.PARAMETERIZED_TYPE, 2), Map.entry(Tree.Kind.IMPORT, 3),
            Map.entry(Tree.Kind.NEW_CLASS, 4), Map.entry(Tree.Kind.NULL_LITERAL, 4),
            Map.entry(Tree.Kind.THROW, 6), Map.entry(Tree.Kind.TRY, 6),
            Map.entry(Tree.Kind.SYNCHRONIZED, 6), Map.entry(Tree.Kind.ASSERT, 6),
            Map.entry(Tree.Kind.INSTANCE_OF, 6), Map.entry(Tree.Kind.LAMBDA_EXPRESSION, 6),
            Map.entry(Tree.Kind.MEMBER_REFERENCE, 6));

    private static CompilationUnitTree unit;
    private static SourcePositions positions;
    private static ClassTree face;
    private static final Map<String, MethodTree> methods = new TreeMap<>();
    private static final Map<String, Set<String>> calls = new TreeMap<>();
    private static final Set<String> arrays = new HashSet<>();
    private static final Set<String> constants = new HashSet<>();

    public static void main(String[] args) throws IOException {
        read();
        Due.is("rule 1: classes in the file", unit.getTypeDecls().size(), 1);
        face = (ClassTree) unit.getTypeDecls().get(0);
        for (Tree member : face.getMembers()) {
            member(member);
        }
        new Rules().scan(unit, null);
        for (String name : methods.keySet()) {
            int deep = depthOfCalls(name, 1);
            Due.is("rules 8 and 10: " + name + " goes " + deep + " calls deep", deep <= DEEPEST_CALL, true);
        }
        Due.end();
    }

    private static void read() throws IOException {
        JavaCompiler compiler = ToolProvider.getSystemJavaCompiler();
        try (StandardJavaFileManager files = compiler.getStandardFileManager(null, null, null)) {
            JavacTask task = (JavacTask) compiler.getTask(
                    null, files, null, List.of("-proc:none"), null, files.getJavaFileObjects(SOURCE));
            unit = task.parse().iterator().next();
            positions = Trees.instance(task).getSourcePositions();
        }
    }

    private static String at(Tree tree) {
        return "line " + line(positions.getStartPosition(unit, tree)) + " (" + tree.toString().strip() + ")";
    }

    private static long line(long position) {
        return unit.getLineMap().getLineNumber(position);
    }

    private static void member(Tree member) {
        if (member instanceof VariableTree) {
            field((VariableTree) member);
        } else if (member instanceof MethodTree) {
            method((MethodTree) member);
        } else {
            Due.is("rules 1 and 5: neither field nor method: " + at(member), true, false);
        }
    }

    private static void field(VariableTree field) {
        String name = field.getName().toString();
        if (field.getModifiers().getFlags().contains(Modifier.STATIC)) {
            constants.add(name);
            boolean constant = field.getModifiers().getFlags().contains(Modifier.FINAL)
                    && List.of("int", "long").contains(field.getType().toString())
                    && field.getInitializer() != null;
            Due.is("rule 5: a constant: " + at(field), constant, true);
            return;
        }
        if (field.getType().getKind() == Tree.Kind.ARRAY_TYPE) {
            arrays.add(name);
            madeOnce(field);
        }
        Due.is("rule 1: private: " + at(field), field.getModifiers().getFlags().contains(Modifier.PRIVATE), true);
        Due.is("rule 10: fields", fields() <= MOST_FIELDS, true);
    }

    private static long fields() {
        return face.getMembers().stream()
                .filter(member -> member instanceof VariableTree)
                .filter(member -> !((VariableTree) member).getModifiers().getFlags().contains(Modifier.STATIC))
                .count();
    }

    private static void madeOnce(VariableTree field) {
        boolean made = field.getInitializer() instanceof NewArrayTree;
        Due.is("rule 4: made in the initialiser: " + at(field), made, true);
        if (made) {
            List<? extends ExpressionTree> lengths = ((NewArrayTree) field.getInitializer()).getDimensions();
            boolean told = lengths.size() == 1
                    && (lengths.get(0).getKind() == Tree.Kind.INT_LITERAL || constants.contains(lengths.get(0).toString()));
            Due.is("rule 4: a length that is a literal or a constant: " + at(field), told, true);
        }
    }

    private static void method(MethodTree method) {
        String name = method.getName().toString();
        Due.is("rule 1: one method of the name " + name, methods.put(name, method) == null, true);
        calls.put(name, new TreeSet<>());
        Due.is("rule 10: parameters of " + name, method.getParameters().size() <= MOST_PARAMETERS, true);
        Due.is("rule 6: throws of " + name, method.getThrows().size(), 0);
        long lines = 1 + line(positions.getEndPosition(unit, method)) - line(positions.getStartPosition(unit, method));
        Due.is("rule 10: lines of " + name + ", " + lines, lines <= MOST_LINES, true);
        boolean answersNumber = method.getReturnType() == null
                || method.getReturnType().toString().equals("void")
                || isNumber(method.getReturnType());
        Due.is("rules 2 and 4: what " + name + " answers", answersNumber, true);
    }

    private static boolean isNumber(Tree type) {
        return type instanceof PrimitiveTypeTree && NUMBERS.contains(((PrimitiveTypeTree) type).getPrimitiveTypeKind());
    }

    /** Ends at a limit, so that a recursion is found and not followed. */
    private static int depthOfCalls(String name, int above) {
        int deepest = above;
        for (String called : calls.get(name)) {
            if (above <= DEEPEST_CALL) {
                deepest = Math.max(deepest, depthOfCalls(called, above + 1));
            }
        }
        return deepest;
    }

    /** Looks at every tree of the file. */
    private static final class Rules extends TreeScanner<Void, Void> {
        private String inMethod = "";
        private boolean inArguments = false;

        @Override
        public Void scan(Tree tree, Void none) {
            if (tree != null && FORBIDDEN.containsKey(tree.getKind())) {
                Due.is("rule " + FORBIDDEN.get(tree.getKind()) + ": " + at(tree), true, false);
            }
            return super.scan(tree, none);
        }

        @Override
        public Void visitMethod(MethodTree method, Void none) {
            inMethod = method.getName().toString();
            super.visitMethod(method, none);
            inMethod = "";
            return null;
        }

        @Override
        public Void visitVariable(VariableTree variable, Void none) {
            Tree type = variable.getType();
            boolean array = type instanceof ArrayTypeTree && isNumber(((ArrayTypeTree) type).getType());
            Due.is("rule 2: " + at(variable), array || isNumber(type), true);
            return super.visitVariable(variable, none);
        }

        @Override
        public Void visitNewArray(NewArrayTree made, Void none) {
            Due.is("rule 4: made in a method: " + at(made), inMethod.isEmpty(), true);
            return super.visitNewArray(made, none);
        }

        @Override
        public Void visitAssignment(AssignmentTree set, Void none) {
            Due.is("rule 4: " + at(set), arrays.contains(set.getVariable().toString()), false);
            return super.visitAssignment(set, none);
        }

        @Override
        public Void visitMemberSelect(MemberSelectTree select, Void none) {
            Due.is("rule 3: " + at(select), select.getIdentifier().contentEquals("length"), true);
            return super.visitMemberSelect(select, none);
        }

        @Override
        public Void visitTypeCast(TypeCastTree cast, Void none) {
            Due.is("rule 6: " + at(cast), isNumber(cast.getType()), true);
            return super.visitTypeCast(cast, none);
        }

        @Override
        public Void visitMethodInvocation(MethodInvocationTree call, Void none) {
            String name = call.getMethodSelect().toString();
            Due.is("rule 10: a call in a call's arguments: " + at(call), inArguments, false);
            Due.is("rule 3: a method of the class: " + at(call), methods.containsKey(name), true);
            Due.is("rule 5: a call outside of a method: " + at(call), inMethod.isEmpty(), false);
            if (methods.containsKey(name) && !inMethod.isEmpty()) {
                calls.get(inMethod).add(name);
            }
            boolean outer = inArguments;
            inArguments = true;
            scan(call.getArguments(), none);
            inArguments = outer;
            return null;
        }

        @Override
        public Void visitForLoop(ForLoopTree loop, Void none) {
            bounded(loop, loop.getCondition());
            return super.visitForLoop(loop, none);
        }

        @Override
        public Void visitWhileLoop(WhileLoopTree loop, Void none) {
            bounded(loop, loop.getCondition());
            return super.visitWhileLoop(loop, none);
        }

        @Override
        public Void visitDoWhileLoop(DoWhileLoopTree loop, Void none) {
            bounded(loop, loop.getCondition());
            return super.visitDoWhileLoop(loop, none);
        }

        private void bounded(Tree loop, ExpressionTree condition) {
            boolean compares = condition != null && condition.toString().matches(".*[<>].*");
            Due.is("rule 8: a counter against a bound: " + at(loop), compares, true);
        }
    }
}
