import com.sun.source.tree.*;
import com.sun.source.util.JavacTask;
import com.sun.source.util.TreePath;
import com.sun.source.util.TreePathScanner;
import com.sun.source.util.Trees;
import java.lang.reflect.Constructor;
import java.lang.reflect.Field;
import java.lang.reflect.Method;
import java.lang.reflect.Modifier;
import java.nio.file.Files;
import java.nio.file.Path;
import java.util.ArrayList;
import java.util.HashMap;
import java.util.HashSet;
import java.util.List;
import java.util.Map;
import java.util.Set;
import java.util.TreeSet;
import javax.lang.model.element.Element;
import javax.lang.model.element.ExecutableElement;
import javax.lang.model.element.VariableElement;
import javax.tools.JavaCompiler;
import javax.tools.StandardJavaFileManager;
import javax.tools.ToolProvider;

/** The thirteen rules of LANGUAGE.md, as far as the class and its syntax tree tell them; often more strictly. */
public final class LanguageTest {
    private static final Check check = new Check("LanguageTest");
    private static final Path FILE = Path.of("src/main/java/AskedRoutes.java");
    private static final String FACE = "type/1 clear/0 net/0 link/2 sends/2 rounds/1 cuts/1 lays/3 changes/2 undo/0 guess/3 mended/3 "
        + "best/2 node/2 used/1 way/1 path/3 astray/1 least/2 right/0 hurt/1 worst/0 sees/3 forget/0 unseen/0 keep/1 back/1 count/1";
    private static final Set<String> TYPES = Set.of("int", "long", "boolean", "char", "byte", "short", "String", "StringBuilder");
    private static final Set<String> LIBRARY = Set.of("Arrays.fill", "Arrays.copyOf", "System.arraycopy", "Math.min", "Math.max");
    private static final Set<Tree.Kind> NEVER = Set.of(Tree.Kind.THROW, Tree.Kind.TRY, Tree.Kind.CATCH, Tree.Kind.SYNCHRONIZED, Tree.Kind.ASSERT,
        Tree.Kind.LAMBDA_EXPRESSION, Tree.Kind.MEMBER_REFERENCE, Tree.Kind.SWITCH_EXPRESSION, Tree.Kind.INSTANCE_OF, Tree.Kind.TYPE_CAST,
        Tree.Kind.STRING_LITERAL, Tree.Kind.DOUBLE_LITERAL, Tree.Kind.FLOAT_LITERAL, Tree.Kind.ENHANCED_FOR_LOOP, Tree.Kind.DO_WHILE_LOOP,
        Tree.Kind.DIVIDE_ASSIGNMENT, Tree.Kind.REMAINDER_ASSIGNMENT, Tree.Kind.ANNOTATION, Tree.Kind.PACKAGE);

    public static void main(String[] args) throws Exception {
        face();
        JavaCompiler compiler = ToolProvider.getSystemJavaCompiler();
        StandardJavaFileManager files = compiler.getStandardFileManager(null, null, null);
        JavacTask task = (JavacTask) compiler.getTask(null, files, null, List.of("-proc:none", "-d", System.getProperty("java.io.tmpdir")), null, files.getJavaFileObjects(FILE));
        CompilationUnitTree unit = task.parse().iterator().next();
        task.analyze();
        Reader reader = new Reader(Trees.instance(task), unit);
        reader.scan(unit, null);
        reader.end();
        check.holds("the text is ASCII", Files.readString(FILE).chars().allMatch(c -> c == '\n' || c >= 32 && c < 127));
        check.end();
    }

    private static void face() {
        Class<?> face = AskedRoutes.class;
        check.holds("1: public and final", Modifier.isPublic(face.getModifiers()) && Modifier.isFinal(face.getModifiers()));
        Set<String> names = new TreeSet<>();
        for (Method m : face.getDeclaredMethods()) {
            if (Modifier.isPublic(m.getModifiers())) {
                names.add(m.getName() + "/" + m.getParameterCount());
                check.holds("1: " + m.getName() + " answers int and is no static", m.getReturnType() == int.class && !Modifier.isStatic(m.getModifiers()));
            } else {
                check.holds("1: " + m.getName() + " is private", Modifier.isPrivate(m.getModifiers()));
                check.holds("1: " + m.getName() + " has no name of the face", !isOfTheFace(m.getName()));
            }
        }
        check.holds("1: the methods are those of the document: " + names, names.equals(new TreeSet<>(List.of(FACE.split(" ")))));
        Constructor<?>[] made = face.getDeclaredConstructors();
        check.holds("1: one public constructor", made.length == 1 && made[0].getParameterCount() == 0 && Modifier.isPublic(made[0].getModifiers()));
        Set<String> constants = new TreeSet<>();
        for (Field f : face.getDeclaredFields()) {
            if (Modifier.isPublic(f.getModifiers())) {
                constants.add(f.getName());
            } else {
                check.holds("1: " + f.getName() + " is private", Modifier.isPrivate(f.getModifiers()));
            }
        }
        check.holds("1: the constants are those of the document", constants.equals(Set.of("BAD", "STATE", "FULL", "NONE")));
        check.due("BAD", AskedRoutes.BAD, -1);
        check.due("STATE", AskedRoutes.STATE, -2);
        check.due("FULL", AskedRoutes.FULL, -3);
        check.due("NONE", AskedRoutes.NONE, -9);
    }

    private static boolean isOfTheFace(String name) {
        return (" " + FACE).contains(" " + name + "/");
    }

    /** Goes through the file once; what only the whole file tells is kept for end(). */
    private static final class Reader extends TreePathScanner<Void, Void> {
        private final Trees trees;
        private final CompilationUnitTree unit;
        private final Set<String> classes = new HashSet<>();
        private final Map<ExecutableElement, Set<ExecutableElement>> calls = new HashMap<>();
        private ExecutableElement inside;

        Reader(Trees trees, CompilationUnitTree unit) {
            this.trees = trees;
            this.unit = unit;
            for (Class<?> one : AskedRoutes.class.getDeclaredClasses()) {
                classes.add(one.getSimpleName());
            }
            classes.add("AskedRoutes");
        }

        private String at(Tree tree) {
            long from = trees.getSourcePositions().getStartPosition(unit, tree);
            return " in line " + unit.getLineMap().getLineNumber(from) + ": " + tree.toString().lines().findFirst().orElse("");
        }

        private long lines(Tree tree) {
            LineMap map = unit.getLineMap();
            return map.getLineNumber(trees.getSourcePositions().getEndPosition(unit, tree)) - map.getLineNumber(trees.getSourcePositions().getStartPosition(unit, tree)) + 1;
        }

        @Override
        public Void scan(Tree tree, Void none) {
            if (tree != null && NEVER.contains(tree.getKind())) {
                check.holds("2, 4, 6, 9: no " + tree.getKind() + at(tree), false);
            }
            return super.scan(tree, none);
        }

        @Override
        public Void visitImport(ImportTree tree, Void none) {
            check.holds("4: import" + at(tree), tree.getQualifiedIdentifier().toString().equals("java.util.Arrays"));
            return null;
        }

        @Override
        public Void visitClass(ClassTree tree, Void none) {
            Tree above = getCurrentPath().getParentPath().getLeaf();
            boolean outer = above instanceof CompilationUnitTree;
            Set<javax.lang.model.element.Modifier> flags = tree.getModifiers().getFlags();
            check.holds("2: a class of its own, static" + at(tree), outer || flags.contains(javax.lang.model.element.Modifier.STATIC)
                && getCurrentPath().getParentPath().getParentPath().getLeaf() instanceof CompilationUnitTree);
            check.holds("1: not public, not protected" + at(tree), outer || !flags.contains(javax.lang.model.element.Modifier.PUBLIC) && !flags.contains(javax.lang.model.element.Modifier.PROTECTED));
            long fields = tree.getMembers().stream().filter(m -> m instanceof VariableTree v && !v.getModifiers().getFlags().contains(javax.lang.model.element.Modifier.STATIC)).count();
            check.holds("11: some twenty fields" + at(tree), fields <= 20);
            check.holds("5: no initialiser block" + at(tree), tree.getMembers().stream().noneMatch(m -> m instanceof BlockTree));
            return super.visitClass(tree, none);
        }

        @Override
        public Void visitMethod(MethodTree tree, Void none) {
            check.holds("11: seven parameters" + at(tree), tree.getParameters().size() <= 7);
            check.holds("11: some sixty lines" + at(tree), lines(tree) <= 60);
            ExecutableElement one = (ExecutableElement) trees.getElement(getCurrentPath());
            if (!one.getEnclosingElement().getSimpleName().contentEquals("AskedRoutes")) {
                check.holds("1: no name of the face" + at(tree), !isOfTheFace(tree.getName().toString()));
            }
            inside = one;
            calls.put(one, new HashSet<>());
            super.visitMethod(tree, none);
            inside = null;
            return null;
        }

        @Override
        public Void visitVariable(VariableTree tree, Void none) {
            String type = tree.getType() == null ? "" : tree.getType().toString();
            String part = type.endsWith("[]") ? type.substring(0, type.length() - 2) : type;
            check.holds("3: the type" + at(tree), TYPES.contains(part) || classes.contains(part));
            Set<javax.lang.model.element.Modifier> flags = tree.getModifiers().getFlags();
            if (flags.contains(javax.lang.model.element.Modifier.STATIC)) {
                VariableElement field = (VariableElement) trees.getElement(getCurrentPath());
                check.holds("5: a static field is a constant" + at(tree), flags.contains(javax.lang.model.element.Modifier.FINAL) && field.getConstantValue() != null);
            }
            return super.visitVariable(tree, none);
        }

        @Override
        public Void visitMethodInvocation(MethodInvocationTree tree, Void none) {
            ExecutableElement called = (ExecutableElement) trees.getElement(new TreePath(getCurrentPath(), tree.getMethodSelect()));
            String owner = called.getEnclosingElement().getSimpleName().toString();
            boolean own = classes.contains(owner);
            String name = called.getSimpleName().toString();
            check.holds("4: on the list" + at(tree), own || LIBRARY.contains(owner + "." + name) || name.equals("<init>"));
            if (own && inside != null) {
                calls.get(inside).add(called);
            }
            return super.visitMethodInvocation(tree, none);
        }

        @Override
        public Void visitNewClass(NewClassTree tree, Void none) {
            check.holds("2: no class without a name" + at(tree), tree.getClassBody() == null);
            made(tree);
            return super.visitNewClass(tree, none);
        }

        @Override
        public Void visitNewArray(NewArrayTree tree, Void none) {
            made(tree);
            check.holds("3, 7: one dimension, of a constant length" + at(tree), tree.getDimensions().size() == 1 && isConstant(tree.getDimensions().get(0)));
            return super.visitNewArray(tree, none);
        }

        /** More strictly than the rule: only what is made with the object itself. */
        private void made(Tree tree) {
            check.holds("12: made by a constructor" + at(tree), inside == null || inside.getSimpleName().contentEquals("<init>"));
        }

        @Override
        public Void visitBinary(BinaryTree tree, Void none) {
            if (tree.getKind() == Tree.Kind.DIVIDE || tree.getKind() == Tree.Kind.REMAINDER) {
                String by = tree.getRightOperand().toString();
                boolean guarded = getCurrentPath().getParentPath().getParentPath().getLeaf().toString().contains(by + " > 0 && ");
                check.holds("7: the divisor is looked at" + at(tree), isConstant(tree.getRightOperand()) || guarded);
            }
            return super.visitBinary(tree, none);
        }

        private boolean isConstant(ExpressionTree tree) {
            if (tree instanceof BinaryTree both) {
                return isConstant(both.getLeftOperand()) && isConstant(both.getRightOperand());
            }
            Element one = trees.getElement(TreePath.getPath(unit, tree));
            return tree instanceof LiteralTree || one instanceof VariableElement field && field.getConstantValue() != null;
        }

        @Override
        public Void visitForLoop(ForLoopTree tree, Void none) {
            String counter = tree.getInitializer().size() == 1 && tree.getInitializer().get(0) instanceof VariableTree v ? v.getName().toString() : "?";
            check.holds("9: a counter against a bound" + at(tree), tree.getCondition() instanceof BinaryTree both
                && (both.getKind() == Tree.Kind.LESS_THAN || both.getKind() == Tree.Kind.LESS_THAN_EQUAL) && both.getLeftOperand().toString().equals(counter));
            check.holds("9: the counter grows" + at(tree), tree.getUpdate().size() == 1 && tree.getUpdate().get(0).toString().equals(counter + "++;"));
            check.holds("9: nothing else sets the counter" + at(tree), !tree.getStatement().toString().matches("(?s).*\\b" + counter + " ?([-+*/]?=[^=]|\\+\\+|--).*"));
            return super.visitForLoop(tree, none);
        }

        @Override
        public Void visitWhileLoop(WhileLoopTree tree, Void none) {
            String condition = tree.getCondition().toString();
            check.holds("9: a counter against a bound" + at(tree), condition.matches("\\((\\w+) < [\\w.]+ && .*\\)"));
            String counter = condition.replaceAll("\\((\\w+) < .*", "$1");
            check.holds("9: the counter grows" + at(tree), tree.getStatement().toString().contains(counter + "++;"));
            return super.visitWhileLoop(tree, none);
        }

        void end() {
            check.holds("11: some twelve classes", classes.size() <= 12);
            check.holds("methods were found", calls.size() > 50);
            for (ExecutableElement one : calls.keySet()) {
                check.holds("8: no recursion, 11: eight deep: " + one, depthOf(one, new ArrayList<>()) <= 8);
            }
        }

        /** How many calls stand open at once, the first one among them; many, if one calls itself. */
        private int depthOf(ExecutableElement one, List<ExecutableElement> open) {
            if (open.contains(one)) {
                return 1000;
            }
            open.add(one);
            int most = 0;
            for (ExecutableElement next : calls.getOrDefault(one, Set.of())) {
                most = Math.max(most, depthOf(next, open));
            }
            open.remove(open.size() - 1);
            return most + 1;
        }
    }
}
