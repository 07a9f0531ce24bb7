import com.sun.source.tree.*;
import com.sun.source.util.JavacTask;
import com.sun.source.util.TreeScanner;
import java.io.IOException;
import java.nio.file.Path;
import java.util.HashMap;
import java.util.HashSet;
import java.util.List;
import java.util.Map;
import java.util.Set;
import java.util.TreeSet;
import javax.lang.model.element.Modifier;
import javax.tools.JavaCompiler;
import javax.tools.StandardJavaFileManager;
import javax.tools.ToolProvider;

/** Rules of LANGUAGE.md that can be read off the source; the answers are counts of what breaks them. */
public final class LanguageTest {
    private static final Path SOURCE = Path.of("src/main/java/LockLevelTypes.java");
    private static final Set<Tree.Kind> RULED_OUT = Set.of(
        Tree.Kind.THROW, Tree.Kind.TRY, Tree.Kind.CATCH, Tree.Kind.SYNCHRONIZED, Tree.Kind.ASSERT, Tree.Kind.INSTANCE_OF,
        Tree.Kind.LAMBDA_EXPRESSION, Tree.Kind.MEMBER_REFERENCE, Tree.Kind.NULL_LITERAL, Tree.Kind.STRING_LITERAL,
        Tree.Kind.FLOAT_LITERAL, Tree.Kind.DOUBLE_LITERAL, Tree.Kind.NEW_CLASS, Tree.Kind.MEMBER_SELECT,
        Tree.Kind.ENHANCED_FOR_LOOP, Tree.Kind.IMPORT, Tree.Kind.PACKAGE, Tree.Kind.ANNOTATION);
    private static final Set<Tree.Kind> CONSTANT_PARTS = Set.of(
        Tree.Kind.INT_LITERAL, Tree.Kind.IDENTIFIER, Tree.Kind.UNARY_MINUS, Tree.Kind.PLUS, Tree.Kind.MINUS, Tree.Kind.MULTIPLY);
    private static final Set<Tree.Kind> COMPARISONS = Set.of(
        Tree.Kind.LESS_THAN, Tree.Kind.LESS_THAN_EQUAL, Tree.Kind.GREATER_THAN, Tree.Kind.GREATER_THAN_EQUAL);
    private static final Set<String> NUMBER_TYPES = Set.of("int", "long", "short", "byte", "char", "boolean");

    private static final Due due = new Due();
    private static final Map<String, Set<String>> calls = new HashMap<>();

    public static void main(String[] args) throws IOException {
        CompilationUnitTree unit = parse();
        due.same("rule 1: classes in the file", unit.getTypeDecls().size(), 1);
        ClassTree type = (ClassTree) unit.getTypeDecls().get(0);
        members(type);
        for (Tree member : type.getMembers()) {
            if (member instanceof MethodTree method) {
                method(method);
                due.yes("rule 10: lines of " + method.getName(), method.toString().lines().count() <= 60);
            }
        }
        unit.accept(new RuledOut(), null);
        for (String name : calls.keySet()) {
            due.yes("rules 8 and 10: calls at most six deep from " + name, depth(name, new HashSet<>()) <= 6);
        }
        due.end();
    }

    private static CompilationUnitTree parse() throws IOException {
        JavaCompiler compiler = ToolProvider.getSystemJavaCompiler();
        StandardJavaFileManager files = compiler.getStandardFileManager(null, null, null);
        JavacTask task = (JavacTask) compiler.getTask(null, files, null, null, null, files.getJavaFileObjects(SOURCE));
        return task.parse().iterator().next();
    }

    private static void members(ClassTree type) {
        Set<String> publicNames = new TreeSet<>();
        Set<String> privateNames = new TreeSet<>();
        int stateFields = 0;
        for (Tree member : type.getMembers()) {
            if (member instanceof MethodTree method) {
                boolean open = method.getModifiers().getFlags().contains(Modifier.PUBLIC);
                (open ? publicNames : privateNames).add(method.getName().toString());
                due.yes("rule 1: " + method.getName() + " is public or private",
                    open || method.getModifiers().getFlags().contains(Modifier.PRIVATE));
            } else if (member instanceof VariableTree field) {
                stateFields += field(field) ? 1 : 0;
            } else {
                due.same("rule 1: other members, " + member.getKind(), 1, 0);
            }
        }
        privateNames.retainAll(publicNames);
        due.same("rule 1: private methods named as public ones", privateNames.toString(), "[]");
        due.yes("rule 10: fields beside the constants", stateFields <= 40);
    }

    private static boolean field(VariableTree field) {
        Set<Modifier> flags = field.getModifiers().getFlags();
        if (flags.contains(Modifier.STATIC)) {
            due.yes("rule 5: " + field.getName() + " is a constant",
                flags.contains(Modifier.FINAL) && List.of("int", "long").contains(field.getType().toString())
                && onlyOf(CONSTANT_PARTS, field.getInitializer()));
            return false;
        }
        due.yes("rule 1: " + field.getName() + " is private", flags.contains(Modifier.PRIVATE));
        if (field.getType() instanceof ArrayTypeTree) {
            due.yes("rule 4: " + field.getName() + " is final and made at once",
                flags.contains(Modifier.FINAL) && field.getInitializer() instanceof NewArrayTree);
        }
        return true;
    }

    private static void method(MethodTree method) {
        String name = method.getName().toString();
        due.yes("rule 10: parameters of " + name, method.getParameters().size() <= 7);
        Tree answer = method.getReturnType();
        due.yes("rules 2 and 4: answer of " + name, answer == null
            || answer.toString().equals("void") || NUMBER_TYPES.contains(answer.toString()));
        Set<String> called = calls.computeIfAbsent(name, key -> new TreeSet<>());
        method.accept(new TreeScanner<Void, Boolean>() {
            @Override
            public Void visitMethodInvocation(MethodInvocationTree call, Boolean inArguments) {
                due.yes("rule 3: " + call + " calls a method of the class", call.getMethodSelect() instanceof IdentifierTree);
                due.no("rule 10: " + call + " stands inside arguments", inArguments);
                called.add(call.getMethodSelect().toString());
                return scan(call.getArguments(), true);
            }

            @Override
            public Void visitNewArray(NewArrayTree made, Boolean inArguments) {
                due.same("rule 4: arrays made in " + name, 1, 0);
                return null;
            }
        }, false);
    }

    private static boolean onlyOf(Set<Tree.Kind> kinds, Tree tree) {
        return kinds(tree).stream().allMatch(kinds::contains);
    }

    private static Set<Tree.Kind> kinds(Tree tree) {
        Set<Tree.Kind> kinds = new HashSet<>();
        new TreeScanner<Void, Void>() {
            @Override
            public Void scan(Tree part, Void none) {
                if (part != null) {
                    kinds.add(part.getKind());
                }
                return super.scan(part, none);
            }
        }.scan(tree, null);
        return kinds;
    }

    private static int depth(String name, Set<String> above) {
        if (!above.add(name)) {
            return 1000;
        }
        int deepest = 0;
        for (String called : calls.getOrDefault(name, Set.of())) {
            deepest = Math.max(deepest, depth(called, above));
        }
        above.remove(name);
        return deepest + 1;
    }

    private static final class RuledOut extends TreeScanner<Void, Void> {
        @Override
        public Void scan(Tree tree, Void none) {
            if (tree != null && RULED_OUT.contains(tree.getKind())) {
                due.same("rules 2, 3 and 6: " + tree.getKind() + " " + tree, 1, 0);
            }
            return super.scan(tree, none);
        }

        @Override
        public Void visitVariable(VariableTree variable, Void none) {
            String type = variable.getType().toString();
            String element = type.endsWith("[]") ? type.substring(0, type.length() - 2) : type;
            due.yes("rule 2: type of " + variable.getName(), NUMBER_TYPES.contains(element));
            return super.visitVariable(variable, none);
        }

        @Override
        public Void visitNewArray(NewArrayTree made, Void none) {
            boolean plain = made.getInitializers() == null && made.getDimensions().size() == 1;
            due.yes("rule 4: length of " + made, plain
                && (made.getDimensions().get(0) instanceof LiteralTree || made.getDimensions().get(0) instanceof IdentifierTree));
            return super.visitNewArray(made, none);
        }

        @Override
        public Void visitForLoop(ForLoopTree loop, Void none) {
            counts(loop.getCondition());
            return super.visitForLoop(loop, none);
        }

        @Override
        public Void visitWhileLoop(WhileLoopTree loop, Void none) {
            counts(loop.getCondition());
            return super.visitWhileLoop(loop, none);
        }

        @Override
        public Void visitDoWhileLoop(DoWhileLoopTree loop, Void none) {
            counts(loop.getCondition());
            return super.visitDoWhileLoop(loop, none);
        }

        private static void counts(Tree condition) {
            due.yes("rule 8: a bound in " + condition, kinds(condition).stream().anyMatch(COMPARISONS::contains));
        }

        @Override
        public Void visitTypeCast(TypeCastTree cast, Void none) {
            due.yes("rule 6: " + cast, cast.getType() instanceof PrimitiveTypeTree);
            return super.visitTypeCast(cast, none);
        }
    }
}
