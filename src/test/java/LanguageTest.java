import com.sun.source.tree.AssignmentTree;
import com.sun.source.tree.BinaryTree;
import com.sun.source.tree.BlockTree;
import com.sun.source.tree.ClassTree;
import com.sun.source.tree.CompilationUnitTree;
import com.sun.source.tree.CompoundAssignmentTree;
import com.sun.source.tree.DoWhileLoopTree;
import com.sun.source.tree.EnhancedForLoopTree;
import com.sun.source.tree.ExpressionTree;
import com.sun.source.tree.ForLoopTree;
import com.sun.source.tree.IdentifierTree;
import com.sun.source.tree.LineMap;
import com.sun.source.tree.LiteralTree;
import com.sun.source.tree.MemberSelectTree;
import com.sun.source.tree.MethodInvocationTree;
import com.sun.source.tree.MethodTree;
import com.sun.source.tree.NewArrayTree;
import com.sun.source.tree.NewClassTree;
import com.sun.source.tree.Tree;
import com.sun.source.tree.TypeCastTree;
import com.sun.source.tree.UnaryTree;
import com.sun.source.tree.VariableTree;
import com.sun.source.tree.WhileLoopTree;
import com.sun.source.util.JavacTask;
import com.sun.source.util.SourcePositions;
import com.sun.source.util.TreeScanner;
import com.sun.source.util.Trees;
import java.io.IOException;
import java.nio.file.Files;
import java.nio.file.Path;
import java.util.HashMap;
import java.util.HashSet;
import java.util.List;
import java.util.Map;
import java.util.Set;
import java.util.TreeSet;
import java.util.regex.Pattern;
import javax.lang.model.element.Modifier;
import javax.tools.JavaCompiler;
import javax.tools.StandardJavaFileManager;
import javax.tools.ToolProvider;

// The rules of LANGUAGE.md, looked for in the words of the source and in its tree. Run from the
// project's root. It is stricter than the rules where that is simpler: arrays only for fields, all
// of them final, and no loop but a for loop with a counter.
public final class LanguageTest {
    private static final Path SOURCE = Path.of("src/main/java/ShapeRing.java");
    private static final String[] FORBIDDEN_WORDS = {
        "package", "import", "float", "double", "String", "Object", "Math", "Integer", "System",
        "Arrays", "null", "throw", "throws", "try", "catch", "finally", "synchronized", "assert",
        "instanceof", "interface", "enum", "record", "protected", "var", "native", "Override"
    };
    private static final String[] FORBIDDEN_SIGNS = {"->", "::", "\"", "@", "[][]"};
    private static final Set<String> TYPES =
        Set.of("int", "long", "short", "byte", "char", "boolean");

    private final Check check = new Check();
    private final Map<String, Set<String>> callsOf = new HashMap<>();
    private final Set<String> constants = new HashSet<>();
    private final Set<String> arrays = new HashSet<>();
    private CompilationUnitTree unit;
    private SourcePositions positions;

    public static void main(String[] args) throws IOException {
        LanguageTest test = new LanguageTest();
        test.words();
        test.parse();
        test.oneClass();
        test.check.end("LanguageTest");
    }

    private void words() throws IOException {
        String source = Files.readString(SOURCE).replaceAll("//[^\n]*", "");
        for (String word : FORBIDDEN_WORDS) {
            boolean found = Pattern.compile("\\b" + word + "\\b").matcher(source).find();
            check.due("the word " + word, !found);
        }
        for (String sign : FORBIDDEN_SIGNS) {
            check.due("the sign " + sign, !source.contains(sign));
        }
    }

    private void parse() throws IOException {
        JavaCompiler compiler = ToolProvider.getSystemJavaCompiler();
        try (StandardJavaFileManager files = compiler.getStandardFileManager(null, null, null)) {
            JavacTask task = (JavacTask) compiler.getTask(null, files, null, List.of("-proc:none"),
                null, files.getJavaFileObjects(SOURCE));
            unit = task.parse().iterator().next();
            positions = Trees.instance(task).getSourcePositions();
        }
    }

    // Rule 1, and rule 3's imports.
    private void oneClass() {
        check.due("types in the file", unit.getTypeDecls().size(), 1);
        check.due("imports", unit.getImports().size(), 0);
        check.due("no package", unit.getPackage() == null);
        ClassTree shapeRing = (ClassTree) unit.getTypeDecls().get(0);
        for (Tree member : shapeRing.getMembers()) {
            if (member instanceof VariableTree field) {
                field(field);
            }
        }
        int fields = 0;
        for (Tree member : shapeRing.getMembers()) {
            check.due("no nested class", !(member instanceof ClassTree));
            check.due("no initialiser block", !(member instanceof BlockTree));
            if (member instanceof MethodTree method) {
                method(method);
            }
            if (member instanceof VariableTree field && !isStatic(field)) {
                fields++;
            }
        }
        check.due("fields beside the constants, " + fields, fields <= 40);
        for (String name : callsOf.keySet()) {
            int depth = depthOf(name, new TreeSet<>());
            check.due("calls from " + name + ", " + depth + " deep", depth >= 1 && depth <= 6);
        }
    }

    private static boolean isStatic(VariableTree field) {
        return field.getModifiers().getFlags().contains(Modifier.STATIC);
    }

    // Rules 2, 4 and 5.
    private void field(VariableTree field) {
        String name = field.getName().toString();
        type(name, field.getType());
        if (isStatic(field)) {
            constants.add(name);
            check.due(name + " is a final int or long",
                field.getModifiers().getFlags().contains(Modifier.FINAL)
                    && Set.of("int", "long").contains(field.getType().toString()));
            check.due(name + " is a number", field.getInitializer().toString().matches("-?\\d+"));
            return;
        }
        check.due(name + " is private", field.getModifiers().getFlags().contains(Modifier.PRIVATE));
        if (field.getType().getKind() == Tree.Kind.ARRAY_TYPE) {
            arrays.add(name);
            check.due(name + " is final", field.getModifiers().getFlags().contains(Modifier.FINAL));
            check.due(name + " is made at the start", field.getInitializer() instanceof NewArrayTree);
            NewArrayTree made = (NewArrayTree) field.getInitializer();
            check.due(name + " has one length", made.getDimensions().size(), 1);
            String length = made.getDimensions().get(0).toString();
            check.due(name + "'s length is a constant",
                length.matches("[1-9]\\d*") || constants.contains(length));
        }
    }

    private void type(String name, Tree type) {
        check.due("the type of " + name + ", " + type,
            TYPES.contains(type.toString().replaceFirst("\\[]$", "")));
    }

    // Rules 4 and 10.
    private void method(MethodTree method) {
        String name = method.getName().toString();
        check.due(name + " stands once", callsOf.put(name, new TreeSet<>()) == null);
        check.due(name + "'s parameters", method.getParameters().size() <= 7);
        if (method.getReturnType() != null) {
            String answer = method.getReturnType().toString();
            check.due(name + " answers " + answer, answer.equals("void") || TYPES.contains(answer));
        }
        LineMap lines = unit.getLineMap();
        long first = lines.getLineNumber(positions.getStartPosition(unit, method));
        long last = lines.getLineNumber(positions.getEndPosition(unit, method));
        check.due(name + " has " + (last - first + 1) + " lines", last - first < 60);
        new BodyScanner(name).scan(method, null);
    }

    // Rules 8 and 10: how many methods stand above one another, or 0 if there is no end of it.
    private int depthOf(String name, Set<String> above) {
        if (above.contains(name)) {
            return 0;
        }
        Set<String> withThis = new TreeSet<>(above);
        withThis.add(name);
        int deepest = 0;
        for (String called : callsOf.get(name)) {
            int depth = depthOf(called, withThis);
            if (depth == 0) {
                return 0;
            }
            deepest = Math.max(deepest, depth);
        }
        return deepest + 1;
    }

    // What a method may not hold: rules 2, 3, 4, 6, 8 and 10.
    private final class BodyScanner extends TreeScanner<Void, Void> {
        private final String method;
        private final Set<String> counters = new HashSet<>();
        private boolean inArguments = false;

        BodyScanner(String method) {
            this.method = method;
        }

        @Override
        public Void visitVariable(VariableTree variable, Void nothing) {
            type(method + "." + variable.getName(), variable.getType());
            return super.visitVariable(variable, nothing);
        }

        @Override
        public Void visitLiteral(LiteralTree literal, Void nothing) {
            check.due(method + ": literal " + literal, Set.of(Tree.Kind.INT_LITERAL,
                Tree.Kind.LONG_LITERAL, Tree.Kind.CHAR_LITERAL, Tree.Kind.BOOLEAN_LITERAL)
                .contains(literal.getKind()));
            return super.visitLiteral(literal, nothing);
        }

        @Override
        public Void visitMemberSelect(MemberSelectTree select, Void nothing) {
            String name = select.toString();
            check.due(method + ": " + name, name.equals("this." + select.getIdentifier())
                || select.getIdentifier().contentEquals("length"));
            return super.visitMemberSelect(select, nothing);
        }

        @Override
        public Void visitNewClass(NewClassTree made, Void nothing) {
            check.due(method + " makes " + made, false);
            return super.visitNewClass(made, nothing);
        }

        @Override
        public Void visitNewArray(NewArrayTree made, Void nothing) {
            check.due(method + " makes " + made, false);
            return super.visitNewArray(made, nothing);
        }

        @Override
        public Void visitMethodInvocation(MethodInvocationTree call, Void nothing) {
            String called = call.getMethodSelect().toString();
            // A constructor's tree begins with a call that nobody wrote.
            if (called.equals("super")) {
                return null;
            }
            check.due(method + ": call in the arguments of another, " + call, !inArguments);
            check.due(method + " calls " + called, call.getMethodSelect() instanceof IdentifierTree);
            callsOf.get(method).add(called);
            inArguments = true;
            for (ExpressionTree argument : call.getArguments()) {
                scan(argument, nothing);
            }
            inArguments = false;
            return null;
        }

        @Override
        public Void visitAssignment(AssignmentTree assignment, Void nothing) {
            // Fields that name arrays are final; this keeps other names from being given one.
            check.due(method + ": " + assignment,
                !arrays.contains(assignment.getExpression().toString()));
            keepsCounter(assignment, assignment.getVariable());
            return super.visitAssignment(assignment, nothing);
        }

        @Override
        public Void visitCompoundAssignment(CompoundAssignmentTree assignment, Void nothing) {
            keepsCounter(assignment, assignment.getVariable());
            return super.visitCompoundAssignment(assignment, nothing);
        }

        @Override
        public Void visitUnary(UnaryTree unary, Void nothing) {
            boolean changes = unary.toString().contains("++") || unary.toString().contains("--");
            if (changes) {
                keepsCounter(unary, unary.getExpression());
            }
            return super.visitUnary(unary, nothing);
        }

        // A loop that changes its own counter would have an end that can't be seen.
        private void keepsCounter(Tree change, ExpressionTree changed) {
            check.due(method + ": in a loop over it, " + change,
                !counters.contains(changed.toString()));
        }

        @Override
        public Void visitTypeCast(TypeCastTree cast, Void nothing) {
            check.due(method + ": " + cast, TYPES.contains(cast.getType().toString()));
            return super.visitTypeCast(cast, nothing);
        }

        @Override
        public Void visitBinary(BinaryTree binary, Void nothing) {
            boolean divides = binary.getKind() == Tree.Kind.DIVIDE
                || binary.getKind() == Tree.Kind.REMAINDER;
            check.due(method + ": " + binary,
                !divides || binary.getRightOperand().toString().matches("[1-9]\\d*"));
            check.due(method + ": an array compared, " + binary,
                !arrays.contains(binary.getLeftOperand().toString())
                    && !arrays.contains(binary.getRightOperand().toString()));
            return super.visitBinary(binary, nothing);
        }

        @Override
        public Void visitForLoop(ForLoopTree loop, Void nothing) {
            check.due(method + ": a counter begins", loop.getInitializer().size(), 1);
            VariableTree counter = (VariableTree) loop.getInitializer().get(0);
            String name = counter.getName().toString();
            check.due(method + ": " + name + " meets a bound", loop.getCondition().toString()
                .matches("(\\w+ \\+ )*" + name + "( \\+ \\w+)* <=? [\\w\\[\\]]+"));
            check.due(method + ": " + name + " is counted up", loop.getUpdate().size() == 1
                && loop.getUpdate().get(0).toString().equals(name + "++;"));
            scan(loop.getInitializer(), nothing);
            scan(loop.getCondition(), nothing);
            counters.add(name);
            scan(loop.getStatement(), nothing);
            counters.remove(name);
            return null;
        }

        @Override
        public Void visitWhileLoop(WhileLoopTree loop, Void nothing) {
            check.due(method + ": a while loop", false);
            return super.visitWhileLoop(loop, nothing);
        }

        @Override
        public Void visitDoWhileLoop(DoWhileLoopTree loop, Void nothing) {
            check.due(method + ": a do loop", false);
            return super.visitDoWhileLoop(loop, nothing);
        }

        @Override
        public Void visitEnhancedForLoop(EnhancedForLoopTree loop, Void nothing) {
            check.due(method + ": a for-each loop", false);
            return super.visitEnhancedForLoop(loop, nothing);
        }
    }
}
