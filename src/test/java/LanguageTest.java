import com.sun.source.tree.ArrayTypeTree;
import com.sun.source.tree.BlockTree;
import com.sun.source.tree.ClassTree;
import com.sun.source.tree.CompilationUnitTree;
import com.sun.source.tree.ExpressionTree;
import com.sun.source.tree.ForLoopTree;
import com.sun.source.tree.IdentifierTree;
import com.sun.source.tree.LiteralTree;
import com.sun.source.tree.MemberSelectTree;
import com.sun.source.tree.MethodInvocationTree;
import com.sun.source.tree.MethodTree;
import com.sun.source.tree.NewArrayTree;
import com.sun.source.tree.PrimitiveTypeTree;
import com.sun.source.tree.Tree;
import com.sun.source.tree.VariableTree;
import com.sun.source.util.JavacTask;
import com.sun.source.util.SourcePositions;
import com.sun.source.util.TreeScanner;
import com.sun.source.util.Trees;
import java.io.IOException;
import java.io.UncheckedIOException;
import java.nio.file.Path;
import java.util.ArrayList;
import java.util.EnumSet;
import java.util.List;
import java.util.Map;
import java.util.Set;
import java.util.TreeMap;
import java.util.TreeSet;
import javax.lang.model.element.Modifier;
import javax.lang.model.type.TypeKind;
import javax.tools.JavaCompiler;
import javax.tools.StandardJavaFileManager;
import javax.tools.ToolProvider;

/** The rules of LANGUAGE.md that the tree of the source shows; stricter than the rules where that is plainer. */
public final class LanguageTest {
    private static final Path SOURCE = Path.of("src", "main", "java", "WoundWaitLocks.java");
    private static final Due due = new Due("LANGUAGE.md");

    private static final Set<TypeKind> NUMBERS = EnumSet.of(TypeKind.INT, TypeKind.LONG, TypeKind.SHORT,
        TypeKind.BYTE, TypeKind.CHAR, TypeKind.BOOLEAN);
    private static final Set<Tree.Kind> LITERALS = EnumSet.of(Tree.Kind.INT_LITERAL, Tree.Kind.LONG_LITERAL,
        Tree.Kind.CHAR_LITERAL, Tree.Kind.BOOLEAN_LITERAL);
    /** Of the loops only for is used, which shows its counter and its bound in one line. */
    private static final Set<Tree.Kind> FORBIDDEN = EnumSet.of(Tree.Kind.THROW, Tree.Kind.TRY, Tree.Kind.CATCH,
        Tree.Kind.SYNCHRONIZED, Tree.Kind.ASSERT, Tree.Kind.INSTANCE_OF, Tree.Kind.LAMBDA_EXPRESSION,
        Tree.Kind.MEMBER_REFERENCE, Tree.Kind.NEW_CLASS, Tree.Kind.WHILE_LOOP, Tree.Kind.DO_WHILE_LOOP,
        Tree.Kind.ENHANCED_FOR_LOOP, Tree.Kind.TYPE_CAST, Tree.Kind.DIVIDE, Tree.Kind.REMAINDER,
        Tree.Kind.DIVIDE_ASSIGNMENT, Tree.Kind.REMAINDER_ASSIGNMENT);

    private static CompilationUnitTree unit;
    private static SourcePositions positions;
    private static ClassTree face;
    private static final List<MethodTree> methods = new ArrayList<>();
    private static final List<VariableTree> fields = new ArrayList<>();

    public static void main(String[] args) {
        parse();
        due.holds("1. One class: no package, no nested class, no name borne by two methods", LanguageTest::oneClass);
        due.holds("2. Types: numbers, boolean, and one-dimensional arrays of these", LanguageTest::plainTypes);
        due.holds("3. No class of the Java library", LanguageTest::noLibrary);
        due.holds("4. Arrays are made in a field's initialiser, and no method assigns to an array field",
            LanguageTest::arraysOfFields);
        due.holds("5. Static fields are compile-time constants of int or long alone", LanguageTest::constants);
        due.holds("6. No throw, try, catch, and the others; 7. no division; 8. no loop but for",
            LanguageTest::nothingForbidden);
        due.holds("8. No recursion; 10. calls go at most six deep", LanguageTest::callsEnd);
        due.holds("8. Every loop has an end that can be seen from its own lines", LanguageTest::loopsCount);
        due.holds("10. No call stands inside the arguments of another call", LanguageTest::noCallInACall);
        due.holds("10. At most seven parameters, some sixty lines, some forty fields", LanguageTest::sizes);
        due.end();
    }

    private static void parse() {
        JavaCompiler compiler = ToolProvider.getSystemJavaCompiler();
        StandardJavaFileManager files = compiler.getStandardFileManager(null, null, null);
        JavacTask task = (JavacTask) compiler.getTask(null, files, null, null, null, files.getJavaFileObjects(SOURCE));
        try {
            unit = task.parse().iterator().next();
        } catch (IOException unread) {
            throw new UncheckedIOException(unread);
        }
        positions = Trees.instance(task).getSourcePositions();
        face = (ClassTree) unit.getTypeDecls().get(0);
        for (Tree member : face.getMembers()) {
            if (member instanceof MethodTree) {
                methods.add((MethodTree) member);
            } else if (member instanceof VariableTree) {
                fields.add((VariableTree) member);
            }
        }
    }

    private static boolean isStatic(VariableTree field) {
        return field.getModifiers().getFlags().contains(Modifier.STATIC);
    }

    private static boolean isArray(VariableTree variable) {
        return variable.getType() instanceof ArrayTypeTree;
    }

    private static long line(Tree tree) {
        return unit.getLineMap().getLineNumber(positions.getStartPosition(unit, tree));
    }

    private static void oneClass() {
        due.yes("no package", unit.getPackage() == null);
        due.is("types in the file", unit.getTypeDecls().size(), 1);
        due.is("members beside methods and fields", face.getMembers().size() - methods.size() - fields.size(), 0);
        Set<String> names = new TreeSet<>();
        for (MethodTree method : methods) {
            due.yes("a name of its own: " + method.getName(), names.add(method.getName().toString()));
        }
    }

    private static boolean isNumber(Tree type) {
        return type instanceof PrimitiveTypeTree && NUMBERS.contains(((PrimitiveTypeTree) type).getPrimitiveTypeKind());
    }

    private static void plainTypes() {
        new TreeScanner<Void, Void>() {
            @Override
            public Void visitVariable(VariableTree variable, Void nothing) {
                Tree type = isArray(variable) ? ((ArrayTypeTree) variable.getType()).getType() : variable.getType();
                due.yes("the type of " + variable.getName(), isNumber(type));
                return super.visitVariable(variable, nothing);
            }

            @Override
            public Void visitLiteral(LiteralTree literal, Void nothing) {
                due.yes("the literal " + literal, LITERALS.contains(literal.getKind()));
                return super.visitLiteral(literal, nothing);
            }
        }.scan(face, null);
        for (MethodTree method : methods) {
            boolean made = method.getReturnType() == null || method.getReturnType().toString().equals("void");
            due.yes("the answer of " + method.getName(), made || isNumber(method.getReturnType()));
        }
    }

    private static void noLibrary() {
        due.is("imports", unit.getImports().size(), 0);
        due.yes("no superclass", face.getExtendsClause() == null && face.getImplementsClause().isEmpty());
        Set<String> own = new TreeSet<>();
        methods.forEach(method -> own.add(method.getName().toString()));
        new TreeScanner<Void, Void>() {
            @Override
            public Void visitMemberSelect(MemberSelectTree select, Void nothing) {
                due.same("what is selected from in line " + line(select), select.getExpression().toString(), "this");
                return super.visitMemberSelect(select, nothing);
            }

            @Override
            public Void visitMethodInvocation(MethodInvocationTree call, Void nothing) {
                String called = call.getMethodSelect().toString();
                due.yes("a method of the class: " + called, called.equals("super") || own.contains(called));
                return super.visitMethodInvocation(call, nothing);
            }
        }.scan(face, null);
    }

    private static void arraysOfFields() {
        int[] made = {0};
        new TreeScanner<Void, Void>() {
            @Override
            public Void visitNewArray(NewArrayTree array, Void nothing) {
                made[0]++;
                return super.visitNewArray(array, nothing);
            }
        }.scan(face, null);
        int ofFields = 0;
        for (VariableTree field : fields) {
            if (isArray(field)) {
                ofFields++;
                due.yes(field.getName() + " is final", field.getModifiers().getFlags().contains(Modifier.FINAL));
                NewArrayTree array = (NewArrayTree) field.getInitializer();
                Tree.Kind length = array.getDimensions().get(0).getKind();
                due.yes("the length of " + field.getName() + " is a literal or a constant",
                    length == Tree.Kind.INT_LITERAL || length == Tree.Kind.IDENTIFIER);
            }
        }
        due.is("arrays made", made[0], ofFields);
    }

    private static void constants() {
        for (VariableTree field : fields) {
            if (isStatic(field)) {
                String type = field.getType().toString();
                due.yes("the type of " + field.getName(), type.equals("int") || type.equals("long"));
                due.yes(field.getName() + " is final", field.getModifiers().getFlags().contains(Modifier.FINAL));
                String value = String.valueOf(field.getInitializer());
                due.yes("the value of " + field.getName(), value.matches("-?\\d+"));
            }
        }
        for (Tree member : face.getMembers()) {
            due.no("an initialiser block", member instanceof BlockTree);
        }
    }

    private static void nothingForbidden() {
        new TreeScanner<Void, Void>() {
            @Override
            public Void scan(Tree tree, Void nothing) {
                if (tree != null) {
                    due.no(tree.getKind() + " in line " + line(tree), FORBIDDEN.contains(tree.getKind()));
                }
                return super.scan(tree, nothing);
            }
        }.scan(face, null);
    }

    private static Map<String, Set<String>> calls() {
        Map<String, Set<String>> calls = new TreeMap<>();
        for (MethodTree method : methods) {
            Set<String> called = new TreeSet<>();
            new TreeScanner<Void, Void>() {
                @Override
                public Void visitMethodInvocation(MethodInvocationTree call, Void nothing) {
                    called.add(call.getMethodSelect().toString());
                    return super.visitMethodInvocation(call, nothing);
                }
            }.scan(method, null);
            calls.put(method.getName().toString(), called);
        }
        return calls;
    }

    /** Takes away the methods that call none but those taken away before; recursion would be left over. */
    private static void callsEnd() {
        Map<String, Set<String>> left = calls();
        Set<String> gone = new TreeSet<>(Set.of("super"));
        int depth = 0;
        boolean some = true;
        while (some) {
            Set<String> leaves = new TreeSet<>(left.keySet());
            leaves.removeIf(name -> !gone.containsAll(left.get(name)));
            some = !leaves.isEmpty();
            depth += some ? 1 : 0;
            gone.addAll(leaves);
            left.keySet().removeAll(leaves);
        }
        due.same("methods that call in a circle", left.keySet().toString(), "[]");
        due.yes("the deepest chain is of " + depth + " methods", depth <= 6);
    }

    private static void loopsCount() {
        new TreeScanner<Void, Void>() {
            @Override
            public Void visitForLoop(ForLoopTree loop, Void nothing) {
                String name = "the loop in line " + line(loop);
                due.is(name + " has a counter", loop.getInitializer().size(), 1);
                due.is(name + " moves it", loop.getUpdate().size(), 1);
                due.yes(name + " has a bound", loop.getCondition() != null);
                String counter = ((VariableTree) loop.getInitializer().get(0)).getName().toString();
                due.yes(name + " looks at it", loop.getCondition().toString().matches("\\(?" + counter + " (<|>=) .*"));
                due.yes(name + " moves it by 1",
                    loop.getUpdate().get(0).toString().matches(counter + "(\\+\\+|--);?"));
                return super.visitForLoop(loop, nothing);
            }
        }.scan(face, null);
    }

    private static void noCallInACall() {
        new TreeScanner<Void, Void>() {
            @Override
            public Void visitMethodInvocation(MethodInvocationTree call, Void nothing) {
                for (ExpressionTree argument : call.getArguments()) {
                    boolean plain = argument instanceof IdentifierTree || argument instanceof LiteralTree;
                    due.yes("the argument " + argument + " in line " + line(call), plain);
                }
                return super.visitMethodInvocation(call, nothing);
            }
        }.scan(face, null);
    }

    private static void sizes() {
        int kept = 0;
        for (VariableTree field : fields) {
            kept += isStatic(field) ? 0 : 1;
        }
        due.yes("fields beside the constants: " + kept, kept <= 40);
        for (MethodTree method : methods) {
            long last = unit.getLineMap().getLineNumber(positions.getEndPosition(unit, method));
            due.yes("the lines of " + method.getName(), last - line(method) < 60);
            due.yes("the parameters of " + method.getName(), method.getParameters().size() <= 7);
        }
    }
}
