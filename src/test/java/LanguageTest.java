import com.sun.source.tree.AssertTree;
import com.sun.source.tree.ClassTree;
import com.sun.source.tree.ExpressionTree;
import com.sun.source.tree.IdentifierTree;
import com.sun.source.tree.InstanceOfTree;
import com.sun.source.tree.LambdaExpressionTree;
import com.sun.source.tree.LiteralTree;
import com.sun.source.tree.MemberReferenceTree;
import com.sun.source.tree.MemberSelectTree;
import com.sun.source.tree.MethodInvocationTree;
import com.sun.source.tree.MethodTree;
import com.sun.source.tree.NewArrayTree;
import com.sun.source.tree.NewClassTree;
import com.sun.source.tree.SynchronizedTree;
import com.sun.source.tree.ThrowTree;
import com.sun.source.tree.Tree;
import com.sun.source.tree.TryTree;
import com.sun.source.tree.VariableTree;
import com.sun.source.util.TreeScanner;
import java.io.IOException;
import java.util.HashMap;
import java.util.Map;
import java.util.Set;
import java.util.TreeSet;
import javax.lang.model.element.Modifier;

/** The rules of LANGUAGE.md, as far as they can be read off the program's text; for loops and divisors see LoopTest. */
public final class LanguageTest extends TreeScanner<Void, Void> {
    private static final Set<String> TYPES = Set.of("int", "long", "short", "byte", "char", "boolean", "void",
        "int[]", "long[]", "short[]", "byte[]", "char[]", "boolean[]");
    private static final Set<String> FACE = Set.of("put", "wipe", "load", "place", "kind", "unload", "look", "value", "item",
        "itemValue", "length", "ask", "work", "answer", "cancel", "pending");
    private static final Set<String> CONSTANTS = Set.of("REFUSED", "DONE", "LOOP", "DIVIDE", "RANGE", "EMPTY", "INT", "BOOL",
        "LIST", "OK", "SCAN", "SYNTAX", "DOUBLE", "LARGE", "DEEP", "UNKNOWN", "CLASH");

    private final Check check = new Check();
    private final Map<String, Set<String>> calls = new HashMap<>();
    private final Set<String> names = new TreeSet<>();
    private final ProgramText text;
    private String method = "";
    private int fields = 0;
    private int classes = 0;
    private boolean inArguments = false;

    public static void main(String[] args) throws IOException {
        new LanguageTest(new ProgramText()).run();
    }

    private LanguageTest(ProgramText text) {
        this.text = text;
    }

    private void run() {
        scan(text.unit(), null);
        rule(1, "one class", classes == 1);
        rule(1, "no package", text.unit().getPackageName() == null);
        rule(3, "no import", text.unit().getImports().isEmpty());
        rule(10, "forty fields", fields <= 40);
        for (String name : calls.keySet()) {
            rule(10, "calls from " + name + " six deep and without recursion", depth(name, 0) <= 6);
        }
        for (String name : FACE) {
            rule(1, name + " is there", calls.containsKey(name));
        }
        check.end();
    }

    private void rule(int number, String what, boolean kept) {
        check.due("rule " + number + ", " + what, kept, true);
    }

    private void never(int number, Tree tree) {
        rule(number, "line " + text.firstLine(tree) + ": " + tree.getKind(), false);
    }

    /** Ends beyond the limit, also where calls go round in a circle. */
    private int depth(String name, int above) {
        int deepest = 1;
        if (above < 7) {
            for (String called : calls.getOrDefault(name, Set.of())) {
                deepest = Math.max(deepest, 1 + depth(called, above + 1));
            }
        }
        return deepest;
    }

    @Override
    public Void visitClass(ClassTree tree, Void nothing) {
        classes++;
        Set<Modifier> flags = tree.getModifiers().getFlags();
        rule(1, "public and final", flags.contains(Modifier.PUBLIC) && flags.contains(Modifier.FINAL));
        for (Tree member : tree.getMembers()) {
            if (member instanceof VariableTree field) {
                checkField(field);
            } else {
                rule(5, "only fields and methods", member instanceof MethodTree);
            }
        }
        return super.visitClass(tree, nothing);
    }

    private void checkField(VariableTree field) {
        Set<Modifier> flags = field.getModifiers().getFlags();
        String name = field.getName().toString();
        String type = field.getType().toString();
        boolean constant = CONSTANTS.contains(name);
        rule(1, name + " is seen as it must be", flags.contains(constant ? Modifier.PUBLIC : Modifier.PRIVATE));
        if (flags.contains(Modifier.STATIC)) {
            boolean whole = type.equals("int") || type.equals("long");
            rule(5, name + " is a constant", whole && flags.contains(Modifier.FINAL) && field.getInitializer() != null);
        } else {
            fields++;
            rule(4, name + " is an array made once", !type.endsWith("[]")
                || flags.contains(Modifier.FINAL) && field.getInitializer() instanceof NewArrayTree);
        }
    }

    @Override
    public Void visitMethod(MethodTree tree, Void nothing) {
        method = tree.getName().toString();
        boolean face = FACE.contains(method) || tree.getReturnType() == null;
        rule(1, method + " is there once", names.add(method));
        rule(1, method + " is seen as it must be", tree.getModifiers().getFlags().contains(face ? Modifier.PUBLIC : Modifier.PRIVATE));
        rule(4, method + " answers no array", tree.getReturnType() == null || !tree.getReturnType().toString().endsWith("]"));
        rule(10, method + " takes seven parameters at most", tree.getParameters().size() <= 7);
        long lines = text.lastLine(tree) - text.firstLine(tree) + 1;
        rule(10, method + " is short", lines <= 60);
        calls.computeIfAbsent(method, m -> new TreeSet<>());
        super.visitMethod(tree, nothing);
        method = "";
        return null;
    }

    @Override
    public Void visitVariable(VariableTree tree, Void nothing) {
        rule(2, tree.getName() + " has a plain type", TYPES.contains(tree.getType().toString()));
        return super.visitVariable(tree, nothing);
    }

    @Override
    public Void visitMethodInvocation(MethodInvocationTree tree, Void nothing) {
        rule(3, tree + " calls a method of the class", tree.getMethodSelect() instanceof IdentifierTree);
        rule(10, tree + " is no argument", !inArguments);
        calls.computeIfAbsent(method, m -> new TreeSet<>()).add(tree.getMethodSelect().toString());
        boolean before = inArguments;
        inArguments = true;
        for (ExpressionTree argument : tree.getArguments()) {
            scan(argument, nothing);
        }
        inArguments = before;
        return null;
    }

    @Override
    public Void visitNewArray(NewArrayTree tree, Void nothing) {
        boolean plain = tree.getDimensions().size() == 1
            && (tree.getDimensions().get(0) instanceof IdentifierTree || tree.getDimensions().get(0) instanceof LiteralTree);
        rule(4, tree + " has a constant length", plain && tree.getInitializers() == null);
        rule(4, tree + " is made in a field's initialiser", method.isEmpty());
        return super.visitNewArray(tree, nothing);
    }

    @Override
    public Void visitMemberSelect(MemberSelectTree tree, Void nothing) {
        rule(3, tree + " is a field of the object", tree.getExpression().toString().equals("this"));
        return super.visitMemberSelect(tree, nothing);
    }

    @Override
    public Void visitLiteral(LiteralTree tree, Void nothing) {
        switch (tree.getKind()) {
            case INT_LITERAL, LONG_LITERAL, CHAR_LITERAL, BOOLEAN_LITERAL -> { }
            default -> never(2, tree);
        }
        return super.visitLiteral(tree, nothing);
    }

    @Override
    public Void visitNewClass(NewClassTree tree, Void nothing) {
        never(4, tree);
        return super.visitNewClass(tree, nothing);
    }

    @Override
    public Void visitThrow(ThrowTree tree, Void nothing) {
        never(6, tree);
        return super.visitThrow(tree, nothing);
    }

    @Override
    public Void visitTry(TryTree tree, Void nothing) {
        never(6, tree);
        return super.visitTry(tree, nothing);
    }

    @Override
    public Void visitSynchronized(SynchronizedTree tree, Void nothing) {
        never(6, tree);
        return super.visitSynchronized(tree, nothing);
    }

    @Override
    public Void visitAssert(AssertTree tree, Void nothing) {
        never(6, tree);
        return super.visitAssert(tree, nothing);
    }

    @Override
    public Void visitInstanceOf(InstanceOfTree tree, Void nothing) {
        never(6, tree);
        return super.visitInstanceOf(tree, nothing);
    }

    @Override
    public Void visitLambdaExpression(LambdaExpressionTree tree, Void nothing) {
        never(6, tree);
        return super.visitLambdaExpression(tree, nothing);
    }

    @Override
    public Void visitMemberReference(MemberReferenceTree tree, Void nothing) {
        never(6, tree);
        return super.visitMemberReference(tree, nothing);
    }
}
