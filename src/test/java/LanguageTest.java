import com.sun.source.tree.ArrayTypeTree;
import com.sun.source.tree.AssignmentTree;
import com.sun.source.tree.BlockTree;
import com.sun.source.tree.ClassTree;
import com.sun.source.tree.CompilationUnitTree;
import com.sun.source.tree.CompoundAssignmentTree;
import com.sun.source.tree.ExpressionTree;
import com.sun.source.tree.ForLoopTree;
import com.sun.source.tree.IdentifierTree;
import com.sun.source.tree.MethodInvocationTree;
import com.sun.source.tree.MethodTree;
import com.sun.source.tree.NewArrayTree;
import com.sun.source.tree.PrimitiveTypeTree;
import com.sun.source.tree.Tree;
import com.sun.source.tree.UnaryTree;
import com.sun.source.tree.VariableTree;
import com.sun.source.util.JavacTask;
import com.sun.source.util.TreeScanner;
import com.sun.source.util.Trees;
import java.io.IOException;
import java.nio.file.Path;
import java.util.ArrayList;
import java.util.EnumSet;
import java.util.HashSet;
import java.util.LinkedHashMap;
import java.util.LinkedHashSet;
import java.util.List;
import java.util.Map;
import java.util.Set;
import javax.lang.model.element.Modifier;
import javax.lang.model.type.TypeKind;
import javax.tools.JavaCompiler;
import javax.tools.StandardJavaFileManager;
import javax.tools.ToolProvider;

/**
 * The rules of LANGUAGE.md that the tree of the class can tell, a test for each. Where the class needs less than a
 * rule allows, the test is stricter than the rule: no while or do, no dot, and no array but in the fields.
 */
final class LanguageTest {
    private static final Path SOURCE = Path.of("src/main/java/ProductiveStreams.java");
    private static final EnumSet<Tree.Kind> RULED_OUT = EnumSet.of(Tree.Kind.THROW, Tree.Kind.TRY, Tree.Kind.SYNCHRONIZED, Tree.Kind.ASSERT,
        Tree.Kind.INSTANCE_OF, Tree.Kind.LAMBDA_EXPRESSION, Tree.Kind.MEMBER_REFERENCE, Tree.Kind.TYPE_CAST);
    private static final EnumSet<Tree.Kind> OBJECTS = EnumSet.of(Tree.Kind.STRING_LITERAL, Tree.Kind.NULL_LITERAL, Tree.Kind.NEW_CLASS,
        Tree.Kind.MEMBER_SELECT, Tree.Kind.PARAMETERIZED_TYPE, Tree.Kind.ANNOTATION, Tree.Kind.IMPORT, Tree.Kind.PACKAGE);
    private static final EnumSet<Tree.Kind> LOOPS = EnumSet.of(Tree.Kind.WHILE_LOOP, Tree.Kind.DO_WHILE_LOOP, Tree.Kind.ENHANCED_FOR_LOOP);

    private static final EnumSet<Tree.Kind> STEPS = EnumSet.of(Tree.Kind.PREFIX_INCREMENT, Tree.Kind.PREFIX_DECREMENT,
        Tree.Kind.POSTFIX_INCREMENT, Tree.Kind.POSTFIX_DECREMENT);

    private static Trees trees;
    private static CompilationUnitTree unit;
    private static ClassTree theClass;
    private static final List<VariableTree> fields = new ArrayList<>();
    private static final List<MethodTree> methods = new ArrayList<>();

    public static void main(String[] args) throws IOException {
        read();
        Edges.sentence("LANGUAGE 1: one class, no nested class, interface, enum or record", LanguageTest::oneClass);
        Edges.sentence("LANGUAGE 1: no private method bears the name of a public one", LanguageTest::methodNames);
        Edges.sentence("LANGUAGE 2: whole numbers, booleans and one-dimensional arrays of them", LanguageTest::types);
        Edges.sentence("LANGUAGE 3: no class of the Java library", () -> dueNone(OBJECTS));
        Edges.sentence("LANGUAGE 3: none of Object's methods is called", LanguageTest::ownCalls);
        Edges.sentence("LANGUAGE 4: arrays are made in the fields' initialisers, with a constant length", LanguageTest::arraysMade);
        Edges.sentence("LANGUAGE 4: an array is never answered, and no method assigns to an array field", LanguageTest::arraysKept);
        Edges.sentence("LANGUAGE 5: static fields are constants of int or long; no initialiser block", LanguageTest::staticFields);
        Edges.sentence("LANGUAGE 6: no throw, try, synchronized, assert, instanceof, lambda, method reference or cast", () -> dueNone(RULED_OUT));
        Edges.sentence("LANGUAGE 8: no recursion", LanguageTest::noRecursion);
        Edges.sentence("LANGUAGE 8: every loop has a counter and a bound", LanguageTest::loops);
        Edges.sentence("LANGUAGE 10: at most seven parameters, some sixty lines, some forty fields", LanguageTest::sizes);
        Edges.sentence("LANGUAGE 10: no call stands inside the arguments of another call", LanguageTest::callsInArguments);
        Edges.sentence("LANGUAGE 10: calls go at most six deep", LanguageTest::depth);
        Check.end();
    }

    private static void read() throws IOException {
        JavaCompiler compiler = ToolProvider.getSystemJavaCompiler();
        StandardJavaFileManager files = compiler.getStandardFileManager(null, null, null);
        JavacTask task = (JavacTask) compiler.getTask(null, files, null, List.of("-proc:none"), null, files.getJavaFileObjects(SOURCE));
        unit = task.parse().iterator().next();
        trees = Trees.instance(task);
        for (Tree type : unit.getTypeDecls()) {
            if (type instanceof ClassTree c && c.getSimpleName().contentEquals("ProductiveStreams")) {
                theClass = c;
            }
        }
        for (Tree member : theClass.getMembers()) {
            if (member instanceof VariableTree field) {
                fields.add(field);
            } else if (member instanceof MethodTree method) {
                methods.add(method);
            }
        }
    }

    private static int line(Tree tree) {
        return (int) unit.getLineMap().getLineNumber(trees.getSourcePositions().getStartPosition(unit, tree));
    }

    private static int lines(Tree tree) {
        long end = trees.getSourcePositions().getEndPosition(unit, tree);
        return (int) unit.getLineMap().getLineNumber(end) - line(tree) + 1;
    }

    private static void broken(Tree tree) {
        Check.report("line " + line(tree) + ": " + tree);
    }

    private static boolean has(VariableTree field, Modifier modifier) {
        return field.getModifiers().getFlags().contains(modifier);
    }

    private static boolean isArray(VariableTree variable) {
        return variable.getType() instanceof ArrayTypeTree;
    }

    private static void dueNone(Set<Tree.Kind> kinds) {
        new TreeScanner<Void, Void>() {
            @Override
            public Void scan(Tree tree, Void nothing) {
                if (tree != null && kinds.contains(tree.getKind())) {
                    broken(tree);
                }
                return super.scan(tree, nothing);
            }
        }.scan(unit, null);
    }

    private static void oneClass() {
        Check.due("types in the file", unit.getTypeDecls().size(), 1);
        Check.due("members that are neither fields nor methods", theClass.getMembers().size() - fields.size() - methods.size(), 0);
        Check.due("what the class extends or implements", theClass.getExtendsClause() != null || !theClass.getImplementsClause().isEmpty(), false);
        for (MethodTree method : methods) {
            dueNoClassIn(method);
        }
    }

    private static void dueNoClassIn(MethodTree method) {
        new TreeScanner<Void, Void>() {
            @Override
            public Void visitClass(ClassTree inner, Void nothing) {
                broken(inner);
                return null;
            }
        }.scan(method, null);
    }

    private static void methodNames() {
        Set<String> names = new HashSet<>();
        for (MethodTree method : methods) {
            Check.due("another method is called " + method.getName(), names.add(method.getName().toString()), true);
        }
    }

    private static boolean allowed(Tree type) {
        Tree part = type instanceof ArrayTypeTree array ? array.getType() : type;
        if (part instanceof PrimitiveTypeTree primitive) {
            TypeKind kind = primitive.getPrimitiveTypeKind();
            return kind != TypeKind.FLOAT && kind != TypeKind.DOUBLE && (kind != TypeKind.VOID || part == type);
        }
        return false;
    }

    private static void types() {
        new TreeScanner<Void, Void>() {
            @Override
            public Void visitVariable(VariableTree variable, Void nothing) {
                if (!allowed(variable.getType())) {
                    broken(variable);
                }
                return super.visitVariable(variable, nothing);
            }

            @Override
            public Void visitMethod(MethodTree method, Void nothing) {
                if (method.getReturnType() != null && !allowed(method.getReturnType())) {
                    broken(method);
                }
                return super.visitMethod(method, nothing);
            }
        }.scan(unit, null);
        dueNone(EnumSet.of(Tree.Kind.FLOAT_LITERAL, Tree.Kind.DOUBLE_LITERAL));
    }

    private static boolean isConstant(Tree length) {
        if (length.getKind() == Tree.Kind.INT_LITERAL) {
            return true;
        }
        for (VariableTree field : fields) {
            if (length instanceof IdentifierTree name && field.getName().equals(name.getName())) {
                return has(field, Modifier.STATIC) && has(field, Modifier.FINAL);
            }
        }
        return false;
    }

    private static void arraysMade() {
        for (MethodTree method : methods) {
            new TreeScanner<Void, Void>() {
                @Override
                public Void visitNewArray(NewArrayTree made, Void nothing) {
                    broken(made);
                    return null;
                }
            }.scan(method, null);
        }
        for (VariableTree field : fields) {
            if (isArray(field)) {
                boolean good = field.getInitializer() instanceof NewArrayTree made && made.getInitializers() == null
                    && made.getDimensions().size() == 1 && isConstant(made.getDimensions().get(0));
                Check.due("field " + field.getName() + " is made in its initialiser", good, true);
            }
        }
    }

    private static void arraysKept() {
        Set<String> arrays = new HashSet<>();
        for (VariableTree field : fields) {
            if (isArray(field)) {
                arrays.add(field.getName().toString());
            }
        }
        for (MethodTree method : methods) {
            Check.due(method.getName() + " answers an array", method.getReturnType() instanceof ArrayTypeTree, false);
            new TreeScanner<Void, Void>() {
                @Override
                public Void visitAssignment(AssignmentTree assignment, Void nothing) {
                    if (assignment.getVariable() instanceof IdentifierTree name && arrays.contains(name.getName().toString())) {
                        broken(assignment);
                    }
                    return super.visitAssignment(assignment, nothing);
                }

                @Override
                public Void visitVariable(VariableTree local, Void nothing) {
                    if (isArray(local)) {
                        broken(local);
                    }
                    return super.visitVariable(local, nothing);
                }
            }.scan(method, null);
        }
    }

    private static void staticFields() {
        for (VariableTree field : fields) {
            if (has(field, Modifier.STATIC)) {
                String type = field.getType().toString();
                Check.due("static field " + field.getName() + " is a constant", has(field, Modifier.FINAL) && (type.equals("int") || type.equals("long")), true);
            }
        }
        for (Tree member : theClass.getMembers()) {
            Check.due("an initialiser block", member instanceof BlockTree, false);
        }
    }

    private static Set<String> callsOf(MethodTree method) {
        Set<String> called = new LinkedHashSet<>();
        new TreeScanner<Void, Void>() {
            @Override
            public Void visitMethodInvocation(MethodInvocationTree call, Void nothing) {
                called.add(call.getMethodSelect().toString());
                return super.visitMethodInvocation(call, nothing);
            }
        }.scan(method, null);
        return called;
    }

    private static Map<String, Set<String>> calls() {
        Map<String, Set<String>> calls = new LinkedHashMap<>();
        for (MethodTree method : methods) {
            calls.put(method.getName().toString(), callsOf(method));
        }
        return calls;
    }

    private static void ownCalls() {
        Map<String, Set<String>> calls = calls();
        for (String method : calls.keySet()) {
            for (String called : calls.get(method)) {
                Check.due(called + ", called in " + method + ", is a method of the class", calls.containsKey(called), true);
            }
        }
    }

    private static boolean recursive(String method, Map<String, Set<String>> calls, List<String> path) {
        if (path.contains(method)) {
            Check.report("recursion: " + path + " " + method);
            return true;
        }
        path.add(method);
        for (String called : calls.getOrDefault(method, Set.of())) {
            if (recursive(called, calls, path)) {
                return true;
            }
        }
        path.remove(method);
        return false;
    }

    private static void noRecursion() {
        Map<String, Set<String>> calls = calls();
        for (String method : calls.keySet()) {
            recursive(method, calls, new ArrayList<>());
        }
    }

    private static void loops() {
        dueNone(LOOPS);
        new TreeScanner<Void, Void>() {
            @Override
            public Void visitForLoop(ForLoopTree loop, Void nothing) {
                boolean counts = loop.getInitializer().size() == 1 && loop.getUpdate().size() == 1 && loop.getCondition() != null;
                String counter = counts && loop.getInitializer().get(0) instanceof VariableTree v ? v.getName().toString() : "";
                if (counter.isEmpty() || !loop.getUpdate().get(0).toString().matches(counter + "(\\+\\+|--);?")
                    || !loop.getCondition().toString().matches(counter + " (<|<=|>=) .*")) {
                    broken(loop);
                }
                dueNotSet(counter, loop);
                return super.visitForLoop(loop, nothing);
            }
        }.scan(unit, null);
    }

    private static void dueNotSet(String counter, ForLoopTree loop) {
        new TreeScanner<Void, Void>() {
            @Override
            public Void visitAssignment(AssignmentTree assignment, Void nothing) {
                dueOther(assignment.getVariable());
                return super.visitAssignment(assignment, nothing);
            }

            @Override
            public Void visitCompoundAssignment(CompoundAssignmentTree assignment, Void nothing) {
                dueOther(assignment.getVariable());
                return super.visitCompoundAssignment(assignment, nothing);
            }

            @Override
            public Void visitUnary(UnaryTree unary, Void nothing) {
                if (STEPS.contains(unary.getKind())) {
                    dueOther(unary.getExpression());
                }
                return super.visitUnary(unary, nothing);
            }

            private void dueOther(ExpressionTree variable) {
                if (variable.toString().equals(counter)) {
                    broken(variable);
                }
            }
        }.scan(loop.getStatement(), null);
    }

    private static void sizes() {
        int variables = 0;
        for (VariableTree field : fields) {
            variables += has(field, Modifier.STATIC) ? 0 : 1;
        }
        Check.due("the number of fields is at most forty", variables <= 40, true);
        for (MethodTree method : methods) {
            Check.due(method.getName() + " takes at most seven parameters", method.getParameters().size() <= 7, true);
            Check.due(method.getName() + " has at most sixty lines", lines(method) <= 60, true);
        }
    }

    private static void callsInArguments() {
        new TreeScanner<Void, Void>() {
            @Override
            public Void visitMethodInvocation(MethodInvocationTree call, Void nothing) {
                for (ExpressionTree argument : call.getArguments()) {
                    dueNoCallIn(argument);
                }
                return super.visitMethodInvocation(call, nothing);
            }
        }.scan(unit, null);
    }

    private static void dueNoCallIn(ExpressionTree argument) {
        new TreeScanner<Void, Void>() {
            @Override
            public Void visitMethodInvocation(MethodInvocationTree call, Void nothing) {
                broken(call);
                return null;
            }
        }.scan(argument, null);
    }

    private static int depth(String method, Map<String, Set<String>> calls, int left) {
        int deepest = 0;
        for (String called : left == 0 ? Set.<String>of() : calls.getOrDefault(method, Set.of())) {
            deepest = Math.max(deepest, depth(called, calls, left - 1));
        }
        return deepest + 1;
    }

    private static void depth() {
        Map<String, Set<String>> calls = calls();
        for (String method : calls.keySet()) {
            Check.due("calls from " + method + " go at most six deep", depth(method, calls, 20) <= 6, true);
        }
    }
}
