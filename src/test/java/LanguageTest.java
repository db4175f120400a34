import com.sun.source.tree.AssertTree;
import com.sun.source.tree.AssignmentTree;
import com.sun.source.tree.ClassTree;
import com.sun.source.tree.CompilationUnitTree;
import com.sun.source.tree.CompoundAssignmentTree;
import com.sun.source.tree.DoWhileLoopTree;
import com.sun.source.tree.EnhancedForLoopTree;
import com.sun.source.tree.ExpressionTree;
import com.sun.source.tree.ForLoopTree;
import com.sun.source.tree.IdentifierTree;
import com.sun.source.tree.InstanceOfTree;
import com.sun.source.tree.LambdaExpressionTree;
import com.sun.source.tree.LiteralTree;
import com.sun.source.tree.MemberReferenceTree;
import com.sun.source.tree.MemberSelectTree;
import com.sun.source.tree.MethodInvocationTree;
import com.sun.source.tree.MethodTree;
import com.sun.source.tree.NewArrayTree;
import com.sun.source.tree.NewClassTree;
import com.sun.source.tree.PrimitiveTypeTree;
import com.sun.source.tree.SynchronizedTree;
import com.sun.source.tree.ThrowTree;
import com.sun.source.tree.Tree;
import com.sun.source.tree.TryTree;
import com.sun.source.tree.TypeCastTree;
import com.sun.source.tree.UnaryTree;
import com.sun.source.tree.VariableTree;
import com.sun.source.tree.WhileLoopTree;
import com.sun.source.util.JavacTask;
import com.sun.source.util.TreeScanner;
import java.io.File;
import java.lang.reflect.Constructor;
import java.lang.reflect.Field;
import java.lang.reflect.Method;
import java.lang.reflect.Modifier;
import java.util.Arrays;
import java.util.HashMap;
import java.util.HashSet;
import java.util.Map;
import java.util.Set;
import java.util.TreeSet;
import java.util.regex.Matcher;
import java.util.regex.Pattern;
import javax.lang.model.type.TypeKind;
import javax.tools.JavaCompiler;
import javax.tools.StandardJavaFileManager;
import javax.tools.ToolProvider;

// The document's public face, and those rules of LANGUAGE.md that can be read off the source.
public final class LanguageTest {
    private static final String SOURCE = "src/main/java/EqualityLab.java";
    private static final String[] FACE = {
        "atom(int,int)", "blame()", "classes(int)", "clause(int,int,int)", "clear(int)", "holds(int)", "least(int)",
        "model(int)", "models()", "one(int,int)", "pop()", "push(int)", "term(int,int,int)", "why(int,int)"};
    // From 0 on, by one, up to a bound, perhaps with an earlier end.
    private static final Pattern COUNTING =
        Pattern.compile("int (\\w+) = 0;? (?:\\w+ && )?\\1 < (\\w+) \\1\\+\\+;?");
    private static int wrong = 0;

    public static void main(String[] args) throws Exception {
        checkFace();
        checkFields();
        checkSource();
        System.out.println(wrong == 0 ? "the program keeps to its face and language" : wrong + " faults");
        if (wrong != 0) {
            System.exit(1);
        }
    }

    private static void fault(String text) {
        wrong++;
        System.out.println(text);
    }

    private static void checkFace() {
        Class<?> lab = EqualityLab.class;
        if (lab.getModifiers() != (Modifier.PUBLIC | Modifier.FINAL) || lab.getSuperclass() != Object.class
            || lab.getInterfaces().length != 0 || lab.getDeclaredClasses().length != 0) {
            fault("the class itself is not as the document says");
        }
        Constructor<?>[] makers = lab.getDeclaredConstructors();
        if (makers.length != 1 || makers[0].getParameterCount() != 0 || makers[0].getModifiers() != Modifier.PUBLIC) {
            fault("the constructor is not as the document says");
        }
        Set<String> seen = new TreeSet<>();
        Set<String> publicNames = new HashSet<>();
        for (Method m : lab.getDeclaredMethods()) {
            if (!Modifier.isPrivate(m.getModifiers())) {
                publicNames.add(m.getName());
                seen.add(signature(m));
                if (m.getModifiers() != Modifier.PUBLIC || m.getReturnType() != int.class) {
                    fault(m + " is not as the document says");
                }
            }
        }
        if (!seen.equals(new TreeSet<>(Arrays.asList(FACE)))) {
            fault("the methods are " + seen);
        }
        for (Method m : lab.getDeclaredMethods()) {
            if (Modifier.isPrivate(m.getModifiers()) && publicNames.contains(m.getName())) {
                fault("rule 1: private " + m.getName() + " bears the name of a public method");
            }
        }
    }

    private static String signature(Method m) {
        StringBuilder s = new StringBuilder(m.getName()).append('(');
        for (int i = 0; i < m.getParameterCount(); i++) {
            s.append(i == 0 ? "" : ",").append(m.getParameterTypes()[i].getName());
        }
        return s.append(')').toString();
    }

    private static void checkFields() {
        int own = 0;
        for (Field f : EqualityLab.class.getDeclaredFields()) {
            int m = f.getModifiers();
            boolean constant = Modifier.isStatic(m);
            own += constant ? 0 : 1;
            if (constant && !(Modifier.isFinal(m) && (f.getType() == int.class || f.getType() == long.class))) {
                fault("rule 5: static field " + f.getName());
            }
            boolean isFace = f.getName().equals("REFUSED") || f.getName().equals("NONE");
            if (isFace && (m != (Modifier.PUBLIC | Modifier.STATIC | Modifier.FINAL) || f.getType() != int.class)) {
                fault("the constant " + f.getName() + " is not as the document says");
            }
            if (!isFace && !Modifier.isPrivate(m)) {
                fault("rule 1: field " + f.getName() + " can be seen");
            }
            if (f.getType().isArray() && !Modifier.isFinal(m)) {
                fault("rule 4: array field " + f.getName() + " can be assigned");
            }
        }
        if (EqualityLab.REFUSED != -1 || EqualityLab.NONE != -2) {
            fault("the constants are " + EqualityLab.REFUSED + " and " + EqualityLab.NONE);
        }
        if (own > 40) {
            fault("rule 10: " + own + " fields");
        }
    }

    private static void checkSource() throws Exception {
        JavaCompiler compiler = ToolProvider.getSystemJavaCompiler();
        try (StandardJavaFileManager files = compiler.getStandardFileManager(null, null, null)) {
            JavacTask task = (JavacTask) compiler.getTask(
                null, files, null, null, null, files.getJavaFileObjects(new File(SOURCE)));
            for (CompilationUnitTree unit : task.parse()) {
                if (unit.getPackageName() != null || !unit.getImports().isEmpty() || unit.getTypeDecls().size() != 1) {
                    fault("rules 1 and 3: package, import or a second class");
                }
                Reader reader = new Reader();
                reader.scan(unit, null);
                reader.checkCalls();
            }
        }
    }

    /** Walks the source, telling what the rules leave out and gathering who calls whom. */
    private static final class Reader extends TreeScanner<Void, Void> {
        private final Map<String, Set<String>> calls = new HashMap<>();
        private String method = null;
        private int argumentsOpen = 0;

        void checkCalls() {
            for (String name : calls.keySet()) {
                depth(name, new HashSet<>(), 1);
            }
        }

        private void depth(String name, Set<String> above, int level) {
            if (!above.add(name)) {
                fault("rule 8: " + name + " calls itself");
                return;
            }
            if (level > 6) {
                fault("rule 10: calls go " + level + " deep at " + name);
            }
            for (String next : calls.getOrDefault(name, Set.of())) {
                depth(next, above, level + 1);
            }
            above.remove(name);
        }

        @Override
        public Void visitMethod(MethodTree node, Void p) {
            method = node.getName().toString();
            calls.putIfAbsent(method, new HashSet<>());
            if (node.getParameters().size() > 7) {
                fault("rule 10: parameters of " + method);
            }
            if (node.toString().split("\n").length > 60) {
                fault("rule 10: length of " + method);
            }
            if (node.getReturnType() != null && node.getReturnType().getKind() == Tree.Kind.ARRAY_TYPE) {
                fault("rule 4: " + method + " answers an array");
            }
            super.visitMethod(node, p);
            method = null;
            return null;
        }

        @Override
        public Void visitMethodInvocation(MethodInvocationTree node, Void p) {
            ExpressionTree called = node.getMethodSelect();
            // Every constructor that is written out begins with a call of super() that javac adds.
            if (called.toString().equals("super")) {
                return null;
            }
            if (!(called instanceof IdentifierTree)) {
                fault("rule 3: call of " + called);
            }
            if (argumentsOpen > 0) {
                fault("rule 10: " + called + " stands in the arguments of another call in " + method);
            }
            if (method != null) {
                calls.get(method).add(called.toString());
            }
            argumentsOpen++;
            scan(node.getArguments(), p);
            argumentsOpen--;
            return null;
        }

        @Override
        public Void visitClass(ClassTree node, Void p) {
            if (!node.getSimpleName().contentEquals("EqualityLab")) {
                fault("rule 1: class " + node.getSimpleName());
            }
            for (Tree member : node.getMembers()) {
                if (member.getKind() == Tree.Kind.BLOCK) {
                    fault("rule 5: an initialiser block");
                }
            }
            return super.visitClass(node, p);
        }

        @Override
        public Void visitVariable(VariableTree node, Void p) {
            if (node.getType() == null) {
                fault("rule 2: no type is written for " + node.getName());
            }
            return super.visitVariable(node, p);
        }

        // The program needs no other loop than one that counts up to a bound, and there the end is easily seen.
        @Override
        public Void visitForLoop(ForLoopTree node, Void p) {
            String head = node.getInitializer() + " " + node.getCondition() + " " + node.getUpdate();
            Matcher counting = COUNTING.matcher(head);
            if (!counting.matches()) {
                fault("rule 8: the end of this loop is not seen: " + head);
            } else {
                new Keeper(counting.group(1), counting.group(2)).scan(node.getStatement(), null);
            }
            return super.visitForLoop(node, p);
        }

        @Override
        public Void visitWhileLoop(WhileLoopTree node, Void p) {
            fault("rule 8: a loop without a counter: " + node);
            return super.visitWhileLoop(node, p);
        }

        @Override
        public Void visitDoWhileLoop(DoWhileLoopTree node, Void p) {
            fault("rule 8: a loop without a counter: " + node);
            return super.visitDoWhileLoop(node, p);
        }

        @Override
        public Void visitEnhancedForLoop(EnhancedForLoopTree node, Void p) {
            fault("rule 8: a loop without a counter: " + node);
            return super.visitEnhancedForLoop(node, p);
        }

        @Override
        public Void visitNewArray(NewArrayTree node, Void p) {
            boolean constant = node.getDimensions().size() == 1
                && (node.getDimensions().get(0) instanceof LiteralTree
                    || node.getDimensions().get(0).toString().startsWith("MAX_"));
            if (method != null || !constant || node.getType() instanceof NewArrayTree) {
                fault("rule 4: " + node);
            }
            return super.visitNewArray(node, p);
        }

        @Override
        public Void visitPrimitiveType(PrimitiveTypeTree node, Void p) {
            if (node.getPrimitiveTypeKind() == TypeKind.FLOAT || node.getPrimitiveTypeKind() == TypeKind.DOUBLE) {
                fault("rule 2: " + node);
            }
            return null;
        }

        @Override
        public Void visitLiteral(LiteralTree node, Void p) {
            Object value = node.getValue();
            if (value == null || value instanceof String || value instanceof Float || value instanceof Double) {
                fault("rules 2 and 4: literal " + node);
            }
            return null;
        }

        @Override
        public Void visitIdentifier(IdentifierTree node, Void p) {
            String name = node.getName().toString();
            boolean capital = Character.isUpperCase(name.charAt(0));
            if (capital && !name.equals(name.toUpperCase())) {
                fault("rule 3: " + name);
            }
            return null;
        }

        @Override
        public Void visitAssignment(AssignmentTree node, Void p) {
            if (node.getExpression() instanceof NewArrayTree) {
                fault("rule 4: " + node);
            }
            return super.visitAssignment(node, p);
        }

        @Override
        public Void visitMemberSelect(MemberSelectTree node, Void p) {
            fault("rule 3: " + node);
            return null;
        }

        @Override
        public Void visitNewClass(NewClassTree node, Void p) {
            fault("rule 4: " + node);
            return null;
        }

        @Override
        public Void visitTypeCast(TypeCastTree node, Void p) {
            if (!(node.getType() instanceof PrimitiveTypeTree)) {
                fault("rule 6: " + node);
            }
            return super.visitTypeCast(node, p);
        }

        @Override
        public Void visitThrow(ThrowTree node, Void p) {
            fault("rule 6: " + node);
            return null;
        }

        @Override
        public Void visitTry(TryTree node, Void p) {
            fault("rule 6: " + node);
            return null;
        }

        @Override
        public Void visitSynchronized(SynchronizedTree node, Void p) {
            fault("rule 6: " + node);
            return null;
        }

        @Override
        public Void visitAssert(AssertTree node, Void p) {
            fault("rule 6: " + node);
            return null;
        }

        @Override
        public Void visitInstanceOf(InstanceOfTree node, Void p) {
            fault("rule 6: " + node);
            return null;
        }

        @Override
        public Void visitLambdaExpression(LambdaExpressionTree node, Void p) {
            fault("rule 6: " + node);
            return null;
        }

        @Override
        public Void visitMemberReference(MemberReferenceTree node, Void p) {
            fault("rule 6: " + node);
            return null;
        }
    }

    /** Walks a loop's body, telling where its counter or its bound is changed. */
    private static final class Keeper extends TreeScanner<Void, Void> {
        private final Set<String> kept;

        Keeper(String counter, String bound) {
            kept = Set.of(counter, bound);
        }

        private void changed(Tree variable) {
            if (kept.contains(variable.toString())) {
                fault("rule 8: a loop changes its own " + variable);
            }
        }

        @Override
        public Void visitAssignment(AssignmentTree node, Void p) {
            changed(node.getVariable());
            return super.visitAssignment(node, p);
        }

        @Override
        public Void visitCompoundAssignment(CompoundAssignmentTree node, Void p) {
            changed(node.getVariable());
            return super.visitCompoundAssignment(node, p);
        }

        @Override
        public Void visitUnary(UnaryTree node, Void p) {
            boolean step = node.getKind() != Tree.Kind.LOGICAL_COMPLEMENT && node.getKind() != Tree.Kind.UNARY_MINUS;
            if (step) {
                changed(node.getExpression());
            }
            return super.visitUnary(node, p);
        }
    }
}
