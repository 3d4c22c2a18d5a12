import com.sun.source.tree.ArrayTypeTree;
import com.sun.source.tree.AssertTree;
import com.sun.source.tree.AssignmentTree;
import com.sun.source.tree.BlockTree;
import com.sun.source.tree.ClassTree;
import com.sun.source.tree.CompilationUnitTree;
import com.sun.source.tree.DoWhileLoopTree;
import com.sun.source.tree.EnhancedForLoopTree;
import com.sun.source.tree.ExpressionTree;
import com.sun.source.tree.ForLoopTree;
import com.sun.source.tree.IdentifierTree;
import com.sun.source.tree.InstanceOfTree;
import com.sun.source.tree.LambdaExpressionTree;
import com.sun.source.tree.LiteralTree;
import com.sun.source.tree.MemberReferenceTree;
import com.sun.source.tree.MemberSelectTree;
import com.sun.source.tree.MethodInvocationTree;
import com.sun.source.tree.MethodTree;
import com.sun.source.tree.NewArrayTree;
import com.sun.source.tree.NewClassTree;
import com.sun.source.tree.PrimitiveTypeTree;
import com.sun.source.tree.SynchronizedTree;
import com.sun.source.tree.ThrowTree;
import com.sun.source.tree.Tree;
import com.sun.source.tree.TryTree;
import com.sun.source.tree.VariableTree;
import com.sun.source.tree.WhileLoopTree;
import com.sun.source.util.JavacTask;
import com.sun.source.util.SourcePositions;
import com.sun.source.util.TreePath;
import com.sun.source.util.TreePathScanner;
import com.sun.source.util.Trees;
import java.io.IOException;
import java.nio.file.Path;
import java.util.ArrayList;
import java.util.HashMap;
import java.util.HashSet;
import java.util.List;
import java.util.Map;
import java.util.Random;
import java.util.Set;
import java.util.TreeSet;
import javax.lang.model.element.Modifier;
import javax.lang.model.type.TypeKind;
import javax.tools.JavaCompiler;
import javax.tools.StandardJavaFileManager;
import javax.tools.ToolProvider;

/** The rules of ../shared/LANGUAGE.md, held against the text of the class and against its calls. */
public final class LanguageTest {
    private static final Path FILE = Path.of("src", "main", "java", "TemplateShop.java");
    private static final int MOST_PARAMETERS = 7;
    private static final int MOST_LINES = 60;
    private static final int MOST_DEEP = 6;
    private static final int MOST_FIELDS = 40;

    private static int wrong = 0;

    private static void broken(int rule, String what) {
        wrong++;
        System.out.println("rule " + rule + ": " + what);
    }

    // ---- rules 1 to 6 and 8 to 11, in the text ----

    /** Walks over the text, notes who calls whom, and tells what a rule leaves out. */
    private static final class Rules extends TreePathScanner<Void, Void> {
        final CompilationUnitTree unit;
        final SourcePositions positions;
        final Set<String> publicMethods = new TreeSet<>();
        final Set<String> privateMethods = new TreeSet<>();
        final Set<String> arrayFields = new HashSet<>();
        final Set<String> constants = new HashSet<>();
        final Map<String, Set<String>> calls = new HashMap<>();
        int fields = 0;
        String method = "";

        Rules(CompilationUnitTree unit, SourcePositions positions) {
            this.unit = unit;
            this.positions = positions;
        }

        long line(long position) {
            return unit.getLineMap().getLineNumber(position);
        }

        void leftOut(int rule, Tree tree, String what) {
            broken(rule, "line " + line(positions.getStartPosition(unit, tree)) + ", " + what);
        }

        void noteMembers(ClassTree type) {
            for (Tree member : type.getMembers()) {
                if (member instanceof MethodTree m) {
                    boolean isPublic = m.getModifiers().getFlags().contains(Modifier.PUBLIC);
                    (isPublic ? publicMethods : privateMethods).add(m.getName().toString());
                } else if (member instanceof VariableTree v) {
                    noteField(v);
                } else if (member instanceof BlockTree) {
                    leftOut(5, member, "an initialiser");
                } else {
                    leftOut(1, member, "a nested type");
                }
            }
        }

        void noteField(VariableTree field) {
            Set<Modifier> flags = field.getModifiers().getFlags();
            String name = field.getName().toString();
            if (flags.contains(Modifier.STATIC)) {
                constants.add(name);
                return;
            }
            fields++;
            if (!flags.contains(Modifier.PRIVATE)) {
                leftOut(1, field, name + " is not private");
            }
            if (field.getType() instanceof ArrayTypeTree) {
                arrayFields.add(name);
            }
        }

        boolean isPlain(Tree type) {
            if (type instanceof PrimitiveTypeTree p) {
                TypeKind kind = p.getPrimitiveTypeKind();
                return kind != TypeKind.FLOAT && kind != TypeKind.DOUBLE && kind != TypeKind.VOID;
            }
            return false;
        }

        @Override
        public Void visitVariable(VariableTree v, Void none) {
            Tree type = v.getType();
            Tree plain = type instanceof ArrayTypeTree a ? a.getType() : type;
            if (!isPlain(plain)) {
                leftOut(2, v, v.getName() + " is of the type " + type);
            }
            return super.visitVariable(v, none);
        }

        @Override
        public Void visitMethod(MethodTree m, Void none) {
            method = m.getName().toString();
            calls.putIfAbsent(method, new TreeSet<>());
            Tree answer = m.getReturnType();
            boolean isVoid = answer != null && answer.toString().equals("void");
            if (answer != null && !isVoid && !isPlain(answer)) {
                leftOut(answer instanceof ArrayTypeTree ? 4 : 2, m, method + " answers " + answer);
            }
            long first = line(positions.getStartPosition(unit, m));
            long last = line(positions.getEndPosition(unit, m));
            if (last - first >= MOST_LINES) {
                leftOut(10, m, method + " has " + (last - first + 1) + " lines");
            }
            if (m.getParameters().size() > MOST_PARAMETERS) {
                leftOut(10, m, method + " has too many parameters");
            }
            super.visitMethod(m, none);
            method = "";
            return null;
        }

        @Override
        public Void visitMethodInvocation(MethodInvocationTree call, Void none) {
            String name = call.getMethodSelect().toString();
            boolean isOwn = publicMethods.contains(name) || privateMethods.contains(name);
            // The compiler writes the call of super() into the constructor.
            if (!isOwn && !name.equals("super")) {
                leftOut(3, call, "a call of " + name);
            }
            calls.computeIfAbsent(method, m -> new TreeSet<>()).add(name);
            for (ExpressionTree argument : call.getArguments()) {
                new TreePathScanner<Void, Void>() {
                    @Override
                    public Void visitMethodInvocation(MethodInvocationTree inner, Void none) {
                        leftOut(10, inner, "a call inside the arguments of " + name);
                        return null;
                    }
                }.scan(new TreePath(getCurrentPath(), argument), null);
            }
            return super.visitMethodInvocation(call, none);
        }

        @Override
        public Void visitNewArray(NewArrayTree array, Void none) {
            boolean isField = getCurrentPath().getParentPath().getLeaf() instanceof VariableTree
                && method.isEmpty();
            boolean hasLength = array.getInitializers() == null
                && array.getDimensions().size() == 1;
            if (!isField) {
                leftOut(4, array, "an array that is not made in a field's initialiser");
            }
            if (!hasLength || !isConstant(array.getDimensions().get(0))) {
                leftOut(4, array, "an array whose length is no constant");
            }
            return super.visitNewArray(array, none);
        }

        boolean isConstant(ExpressionTree length) {
            return length instanceof LiteralTree
                || length instanceof IdentifierTree && constants.contains(length.toString());
        }

        @Override
        public Void visitAssignment(AssignmentTree a, Void none) {
            if (arrayFields.contains(a.getVariable().toString())) {
                leftOut(4, a, "an array field is assigned");
            }
            return super.visitAssignment(a, none);
        }

        @Override
        public Void visitLiteral(LiteralTree literal, Void none) {
            if (literal.getKind() == Tree.Kind.NULL_LITERAL) {
                leftOut(4, literal, "null");
            }
            if (literal.getKind() == Tree.Kind.STRING_LITERAL) {
                leftOut(2, literal, "a String");
            }
            return null;
        }

        @Override
        public Void visitMemberSelect(MemberSelectTree select, Void none) {
            if (!select.getIdentifier().contentEquals("length")) {
                leftOut(3, select, select.toString());
            }
            return super.visitMemberSelect(select, none);
        }

        @Override
        public Void visitForLoop(ForLoopTree loop, Void none) {
            if (loop.getCondition() == null || loop.getUpdate().isEmpty()) {
                leftOut(8, loop, "a loop without a bound or without a step");
            }
            return super.visitForLoop(loop, none);
        }

        // The class needs none of these loops; a counter against a bound is hard to see in them.

        @Override
        public Void visitWhileLoop(WhileLoopTree loop, Void none) {
            leftOut(8, loop, "a while loop");
            return super.visitWhileLoop(loop, none);
        }

        @Override
        public Void visitDoWhileLoop(DoWhileLoopTree loop, Void none) {
            leftOut(8, loop, "a do loop");
            return super.visitDoWhileLoop(loop, none);
        }

        @Override
        public Void visitEnhancedForLoop(EnhancedForLoopTree loop, Void none) {
            leftOut(8, loop, "a loop over an array");
            return super.visitEnhancedForLoop(loop, none);
        }

        @Override
        public Void visitNewClass(NewClassTree tree, Void none) {
            leftOut(4, tree, "a new object");
            return super.visitNewClass(tree, none);
        }

        @Override
        public Void visitThrow(ThrowTree tree, Void none) {
            leftOut(6, tree, "throw");
            return super.visitThrow(tree, none);
        }

        @Override
        public Void visitTry(TryTree tree, Void none) {
            leftOut(6, tree, "try");
            return super.visitTry(tree, none);
        }

        @Override
        public Void visitSynchronized(SynchronizedTree tree, Void none) {
            leftOut(6, tree, "synchronized");
            return super.visitSynchronized(tree, none);
        }

        @Override
        public Void visitAssert(AssertTree tree, Void none) {
            leftOut(6, tree, "assert");
            return super.visitAssert(tree, none);
        }

        @Override
        public Void visitInstanceOf(InstanceOfTree tree, Void none) {
            leftOut(6, tree, "instanceof");
            return super.visitInstanceOf(tree, none);
        }

        @Override
        public Void visitLambdaExpression(LambdaExpressionTree tree, Void none) {
            leftOut(6, tree, "a lambda");
            return super.visitLambdaExpression(tree, none);
        }

        @Override
        public Void visitMemberReference(MemberReferenceTree tree, Void none) {
            leftOut(6, tree, "a method reference");
            return super.visitMemberReference(tree, none);
        }

        /** How many calls are open at most when a method works; too many if it calls itself. */
        int deep(String name, int above) {
            if (above > MOST_DEEP) {
                return above;
            }
            int most = above + 1;
            for (String called : calls.getOrDefault(name, Set.of())) {
                most = Math.max(most, deep(called, above + 1));
            }
            return most;
        }
    }

    private static Rules textRules() throws IOException {
        JavaCompiler compiler = ToolProvider.getSystemJavaCompiler();
        try (StandardJavaFileManager files = compiler.getStandardFileManager(null, null, null)) {
            JavacTask task = (JavacTask) compiler.getTask(null, files, null, List.of(), null,
                files.getJavaFileObjects(FILE));
            CompilationUnitTree unit = task.parse().iterator().next();
            Rules rules = new Rules(unit, Trees.instance(task).getSourcePositions());
            unitRules(rules, unit);
            return rules;
        }
    }

    private static void unitRules(Rules rules, CompilationUnitTree unit) {
        if (unit.getPackage() != null || unit.getTypeDecls().size() != 1) {
            broken(1, "a package line, or more than one type");
        }
        if (!unit.getImports().isEmpty()) {
            broken(3, "an import");
        }
        ClassTree type = (ClassTree) unit.getTypeDecls().get(0);
        if (type.getExtendsClause() != null || !type.getImplementsClause().isEmpty()) {
            broken(1, "the class extends or implements another type");
        }
        rules.noteMembers(type);
        rules.scan(unit, null);
        Set<String> shared = new TreeSet<>(rules.publicMethods);
        shared.retainAll(rules.privateMethods);
        if (!shared.isEmpty()) {
            broken(1, "private methods with the names of public ones: " + shared);
        }
        if (rules.fields > MOST_FIELDS) {
            broken(10, rules.fields + " fields");
        }
        for (String name : rules.calls.keySet()) {
            if (rules.deep(name, 0) > MOST_DEEP) {
                broken(10, "the calls from " + name + " go too deep, or in a circle (rule 8)");
            }
        }
    }

    // ---- rules 7 and 11, in calls ----

    private static int someInt(Random random) {
        int[] some = {0, 1, 2, 3, 4, 5, -1, -2, 9, 10, 12, 16, 17, 20, 21, 23, 24, 1999, 2000,
            Integer.MIN_VALUE, Integer.MAX_VALUE};
        return random.nextInt(8) == 0 ? random.nextInt() : some[random.nextInt(some.length)];
    }

    private static long someCall(TemplateShop shop, Random random) {
        int x = someInt(random);
        int y = someInt(random);
        int s = random.nextInt(10) == 0 ? x : random.nextInt(4);
        switch (random.nextInt(24)) {
            case 0:
                return shop.define(random.nextInt(6) - 1);
            case 1:
                return random.nextInt(4) == 0 ? shop.forget() : shop.place();
            case 2:
                return shop.source(s);
            case 3:
                return shop.size(s);
            case 4:
                return shop.uses(s);
            case 5:
                return shop.kinds(s, x);
            case 6:
                return shop.depth(s);
            case 7:
                return shop.at(s, x);
            case 8:
                return shop.origin(s, x);
            case 9:
                return shop.parent(s, x);
            case 10:
                return shop.span(s, x);
            case 11:
                return shop.run(s, x, y, x);
            case 12:
                return shop.result();
            case 13:
                return shop.says();
            case 14:
                return shop.said(x);
            default:
                return shop.token(random.nextInt(23), random.nextInt(3) == 0 ? x : y & 1);
        }
    }

    /** Far more calls than 512: what they answer then is free, but they must answer. */
    private static List<Long> manyCalls(int seed) {
        Random random = new Random(seed);
        TemplateShop shop = new TemplateShop();
        List<Long> answers = new ArrayList<>();
        for (int k = 0; k < 2000; k++) {
            answers.add(someCall(shop, random));
        }
        return answers;
    }

    private static void calledRules() {
        for (int seed = 0; seed < 200; seed++) {
            try {
                List<Long> once = manyCalls(seed);
                List<Long> again = manyCalls(seed);
                if (!once.equals(again)) {
                    broken(11, "the same calls gave other answers, seed " + seed);
                }
            } catch (RuntimeException | StackOverflowError thrown) {
                broken(7, "a call threw, seed " + seed + ": " + thrown);
            }
        }
    }

    public static void main(String[] args) throws IOException {
        Rules rules = textRules();
        calledRules();
        System.out.println(rules.publicMethods.size() + " public names, "
            + rules.privateMethods.size() + " private methods, " + rules.fields + " fields, "
            + rules.arrayFields.size() + " of them arrays; " + wrong + " rules broken");
        if (wrong != 0) {
            System.exit(1);
        }
    }
}
