import com.sun.source.tree.BinaryTree;
import com.sun.source.tree.BlockTree;
import com.sun.source.tree.ClassTree;
import com.sun.source.tree.CompilationUnitTree;
import com.sun.source.tree.ExpressionTree;
import com.sun.source.tree.LiteralTree;
import com.sun.source.tree.MethodInvocationTree;
import com.sun.source.tree.MethodTree;
import com.sun.source.tree.NewClassTree;
import com.sun.source.tree.Tree;
import com.sun.source.tree.VariableTree;
import com.sun.source.util.JavacTask;
import com.sun.source.util.TreePath;
import com.sun.source.util.TreePathScanner;
import com.sun.source.util.Trees;
import java.io.IOException;
import java.lang.reflect.Constructor;
import java.lang.reflect.Field;
import java.lang.reflect.Method;
import java.lang.reflect.Modifier;
import java.nio.file.Files;
import java.nio.file.Path;
import java.util.ArrayList;
import java.util.EnumSet;
import java.util.LinkedHashMap;
import java.util.LinkedHashSet;
import java.util.List;
import java.util.Map;
import java.util.Set;
import java.util.TreeSet;
import javax.lang.model.element.Element;
import javax.lang.model.element.ElementKind;
import javax.tools.JavaCompiler;
import javax.tools.StandardJavaFileManager;
import javax.tools.ToolProvider;

// The document's face, and of LANGUAGE.md what can be found by a look at the class and, by the
// compiler's own trees, at its source. The numbers are those of the rules.
public final class Rules {
    private static final Path SOURCE = Path.of("src/main/java/WhichEncore.java");
    private static final String[] FACE = {
        "int write(int)", "int erase()", "int fault()", "int hall()", "int clapper(int,int)",
        "int encore(int,int)", "int as(int,int)", "int encoreAs(int,int)", "int can(int)", "int does(int)",
        "int undo()", "int keep(int)", "int back(int)", "int till()", "int there(int)", "int sound(int)",
        "int best(int)", "int row(int)", "int tear()", "int judge(int)", "long stay(int,int,int)",
        "int gone(int,int)", "int prepared(int)", "int other(int)", "int count(int)"};
    // Rule 4, and of it only what the class has a use for: a new need is looked up there first.
    private static final Set<String> LIBRARY = Set.of(
        "java.lang.String.length", "java.lang.String.charAt", "java.lang.System.arraycopy",
        "java.lang.Math.min", "java.lang.Math.max", "java.lang.Integer.bitCount");
    // Rule 3, and of it only what the class has a use for, beside its own classes and arrays of them.
    private static final Set<String> TYPES = Set.of(
        "int", "long", "boolean", "char", "java.lang.String", "int[]", "boolean[]", "char[]");
    private static final Set<String> STATIC_TYPES = Set.of(
        "int", "long", "boolean", "char", "java.lang.String", "int[]", "long[]", "char[]", "byte[]");
    private static final Set<Tree.Kind> NEVER = EnumSet.of(
        Tree.Kind.THROW, Tree.Kind.TRY, Tree.Kind.CATCH, Tree.Kind.SYNCHRONIZED, Tree.Kind.ASSERT,
        Tree.Kind.LAMBDA_EXPRESSION, Tree.Kind.MEMBER_REFERENCE, Tree.Kind.IMPORT, Tree.Kind.PACKAGE,
        Tree.Kind.SWITCH_EXPRESSION, Tree.Kind.TYPE_CAST, Tree.Kind.DOUBLE_LITERAL,
        Tree.Kind.FLOAT_LITERAL, Tree.Kind.UNION_TYPE, Tree.Kind.INTERSECTION_TYPE);
    // Rule 8: these call one another, six deep, by the document's bound on the steps of a row.
    private static final Set<String> RECURSIVE = Set.of("Search.lookDeeper", "Search.lookBehind");
    private static final int MOST_LINES = 60, MOST_PARAMETERS = 7, MOST_CLASSES = 12, MOST_FIELDS = 20,
        MOST_DEEP = 8;
    private static int wrong;

    private static void fault(String what) {
        wrong++;
        System.out.println(what);
    }

    private static String types(Class<?>[] parameters) {
        List<String> names = new ArrayList<>();
        for (Class<?> p : parameters) {
            names.add(p.getSimpleName());
        }
        return "(" + String.join(",", names) + ")";
    }

    private static void lookAtFace() {
        Class<?> c = WhichEncore.class;
        if (!Modifier.isFinal(c.getModifiers()) || !Modifier.isPublic(c.getModifiers())) {
            fault("1: the class is not public and final");
        }
        Set<String> found = new TreeSet<>();
        Set<String> publicNames = new TreeSet<>();
        for (Method m : c.getDeclaredMethods()) {
            if (!Modifier.isPrivate(m.getModifiers())) {
                found.add(m.getReturnType().getSimpleName() + " " + m.getName() + types(m.getParameterTypes()));
                publicNames.add(m.getName());
                if (!Modifier.isPublic(m.getModifiers()) || Modifier.isStatic(m.getModifiers())) {
                    fault("1: not a public method of an object: " + m);
                }
            }
        }
        if (!found.equals(new TreeSet<>(List.of(FACE)))) {
            fault("1: the methods are " + found);
        }
        Constructor<?>[] constructors = c.getDeclaredConstructors();
        if (constructors.length != 1 || constructors[0].getParameterCount() != 0
            || !Modifier.isPublic(constructors[0].getModifiers())) {
            fault("1: not the one constructor");
        }
        Set<String> constants = new TreeSet<>();
        for (Field f : c.getDeclaredFields()) {
            if (!Modifier.isPrivate(f.getModifiers())) {
                constants.add(f.getName());
            }
        }
        if (!constants.equals(new TreeSet<>(List.of("NONE", "UNKNOWN", "OUTSIDE", "NOT", "FULL")))) {
            fault("1: the constants are " + constants);
        }
        lookAtInside(c, publicNames);
    }

    private static void lookAtInside(Class<?> c, Set<String> publicNames) {
        List<Class<?>> all = new ArrayList<>(List.of(c.getDeclaredClasses()));
        if (all.size() + 1 > MOST_CLASSES) {
            fault("11: too many classes");
        }
        for (Class<?> inside : all) {
            if (!Modifier.isStatic(inside.getModifiers()) || Modifier.isPublic(inside.getModifiers())) {
                fault("1: not static, or public: " + inside);
            }
        }
        all.add(c);
        for (Class<?> one : all) {
            int fields = 0;
            for (Field f : one.getDeclaredFields()) {
                fields += Modifier.isStatic(f.getModifiers()) ? 0 : 1;
                if (Modifier.isStatic(f.getModifiers()) && !Modifier.isFinal(f.getModifiers())) {
                    fault("5: static and not final: " + f);
                }
            }
            if (fields > MOST_FIELDS) {
                fault("11: too many fields: " + one);
            }
            for (Method m : one.getDeclaredMethods()) {
                if (m.getParameterCount() > MOST_PARAMETERS) {
                    fault("11: too many parameters: " + m);
                }
                boolean own = !Modifier.isPublic(m.getModifiers());
                if (own && publicNames.contains(m.getName())) {
                    fault("1: bears the name of a public method: " + m);
                }
            }
        }
    }

    /** Goes over the whole source, and gathers which method calls which. */
    private static final class Look extends TreePathScanner<Void, Void> {
        final Map<String, Set<String>> calls = new LinkedHashMap<>();
        final Set<String> publicOnes = new LinkedHashSet<>();
        private final Trees trees;
        private final CompilationUnitTree unit;

        Look(Trees trees, CompilationUnitTree unit) {
            this.trees = trees;
            this.unit = unit;
        }

        @Override
        public Void scan(Tree tree, Void none) {
            if (tree != null && NEVER.contains(tree.getKind()) && !isCastToChar(tree)) {
                fault("2, 3, 4, 6: line " + line(tree) + ": " + tree);
            }
            return super.scan(tree, none);
        }

        // A letter's number was looked at before it is made a char: the one cast that the class has.
        private boolean isCastToChar(Tree tree) {
            return tree.toString().matches("\\(char\\)\\s?letter");
        }

        @Override
        public Void visitClass(ClassTree c, Void none) {
            Tree.Kind around = getCurrentPath().getParentPath().getLeaf().getKind();
            if (around != Tree.Kind.COMPILATION_UNIT && around != Tree.Kind.CLASS) {
                fault("2: line " + line(c) + ": a local or anonymous class");
            }
            return super.visitClass(c, none);
        }

        @Override
        public Void visitBlock(BlockTree block, Void none) {
            if (getCurrentPath().getParentPath().getLeaf() instanceof ClassTree) {
                fault("5: line " + line(block) + ": a block of a class");
            }
            return super.visitBlock(block, none);
        }

        @Override
        public Void visitVariable(VariableTree v, Void none) {
            Element element = trees.getElement(getCurrentPath());
            boolean isStatic = element.getModifiers().contains(javax.lang.model.element.Modifier.STATIC);
            if (isStatic && element.getKind() == ElementKind.FIELD && !STATIC_TYPES.contains(element.asType().toString())) {
                fault("5: line " + line(v) + ": static of type " + element.asType());
            }
            String type = element.asType().toString();
            if (!TYPES.contains(type) && !type.matches("WhichEncore(\\.\\w+)?(\\[\\])?")) {
                fault("3: line " + line(v) + ": " + v);
            }
            return super.visitVariable(v, none);
        }

        @Override
        public Void visitMethod(MethodTree m, Void none) {
            Element element = trees.getElement(getCurrentPath());
            calls.computeIfAbsent(name(element), n -> new LinkedHashSet<>());
            if (element.getModifiers().contains(javax.lang.model.element.Modifier.PUBLIC)) {
                publicOnes.add(name(element));
            }
            if (lastLine(m) - line(m) + 1 > MOST_LINES) {
                fault("11: line " + line(m) + ": a method of too many lines");
            }
            return super.visitMethod(m, none);
        }

        @Override
        public Void visitMethodInvocation(MethodInvocationTree call, Void none) {
            Element called = trees.getElement(new TreePath(getCurrentPath(), call.getMethodSelect()));
            note(call, called);
            return super.visitMethodInvocation(call, none);
        }

        @Override
        public Void visitNewClass(NewClassTree made, Void none) {
            note(made, trees.getElement(getCurrentPath()));
            return super.visitNewClass(made, none);
        }

        @Override
        public Void visitBinary(BinaryTree b, Void none) {
            if (b.getKind() == Tree.Kind.EQUAL_TO || b.getKind() == Tree.Kind.NOT_EQUAL_TO || b.getKind() == Tree.Kind.PLUS) {
                for (ExpressionTree side : List.of(b.getLeftOperand(), b.getRightOperand())) {
                    if (type(side).equals("java.lang.String")) {
                        fault("6, 10: line " + line(b) + ": Strings compared or joined: " + b);
                    }
                }
            }
            return super.visitBinary(b, none);
        }

        @Override
        public Void visitLiteral(LiteralTree literal, Void none) {
            if (literal.getValue() instanceof String s && !s.chars().allMatch(sign -> sign >= 1 && sign <= 127)) {
                fault("4: line " + line(literal) + ": a sign above 127");
            }
            return super.visitLiteral(literal, none);
        }

        private void note(Tree at, Element called) {
            String owner = called.getEnclosingElement().toString();
            // What the compiler puts ahead of every constructor.
            if (owner.matches("java.lang.(Object|Enum)") && at.toString().startsWith("super(")) {
                return;
            }
            if (!owner.startsWith("WhichEncore") && !LIBRARY.contains(owner + "." + called.getSimpleName())) {
                fault("4: line " + line(at) + ": " + owner + "." + called.getSimpleName());
            }
            String caller = caller();
            if (caller != null) {
                calls.computeIfAbsent(caller, n -> new LinkedHashSet<>()).add(name(called));
            }
        }

        private String caller() {
            for (TreePath p = getCurrentPath(); p != null; p = p.getParentPath()) {
                if (p.getLeaf() instanceof MethodTree) {
                    return name(trees.getElement(p));
                }
            }
            return null;
        }

        private String name(Element method) {
            return method.getEnclosingElement().getSimpleName() + "." + method.getSimpleName();
        }

        private String type(ExpressionTree side) {
            return String.valueOf(trees.getTypeMirror(new TreePath(getCurrentPath(), side)));
        }

        private long line(Tree tree) {
            return unit.getLineMap().getLineNumber(trees.getSourcePositions().getStartPosition(unit, tree));
        }

        private long lastLine(Tree tree) {
            long end = trees.getSourcePositions().getEndPosition(unit, tree);
            return end < 0 ? line(tree) : unit.getLineMap().getLineNumber(end);
        }
    }

    /** The longest way from a method down, each method once, so that a recursion counts as one round. */
    private static List<String> deepest(Map<String, Set<String>> calls, String from, Set<String> open) {
        List<String> longest = List.of();
        open.add(from);
        for (String next : calls.getOrDefault(from, Set.of())) {
            if (open.contains(next)) {
                if (!RECURSIVE.contains(from) || !RECURSIVE.contains(next)) {
                    fault("8: a recursion through " + from + " and " + next);
                }
                continue;
            }
            List<String> way = deepest(calls, next, open);
            longest = way.size() > longest.size() ? way : longest;
        }
        open.remove(from);
        List<String> whole = new ArrayList<>(List.of(from));
        whole.addAll(longest);
        return whole;
    }

    private static void lookAtSource() throws IOException {
        String source = Files.readString(SOURCE);
        if (source.matches("(?s).*\\bvar \\w+ [=:].*")) {
            fault("3: a variable without its type");
        }
        if (!source.chars().allMatch(sign -> sign >= 1 && sign <= 127)) {
            fault("4: a sign above 127 in the source");
        }
        JavaCompiler compiler = ToolProvider.getSystemJavaCompiler();
        try (StandardJavaFileManager files = compiler.getStandardFileManager(null, null, null)) {
            JavacTask task = (JavacTask) compiler.getTask(
                null, files, null, List.of("-proc:none"), null, files.getJavaFileObjects(SOURCE));
            CompilationUnitTree unit = task.parse().iterator().next();
            task.analyze();
            Look look = new Look(Trees.instance(task), unit);
            look.scan(unit, null);
            int deep = 0;
            for (String method : look.publicOnes) {
                List<String> way = deepest(look.calls, method, new LinkedHashSet<>());
                deep = Math.max(deep, way.size());
                if (way.size() > MOST_DEEP) {
                    fault("11: calls go " + way.size() + " deep: " + String.join(" > ", way));
                }
            }
            System.out.println(look.calls.size() + " methods, calls " + deep + " deep at most");
        }
    }

    public static void main(String[] args) throws IOException {
        lookAtFace();
        lookAtSource();
        System.out.println(wrong == 0 ? "all rules looked at are kept" : wrong + " rules are not kept");
        if (wrong != 0) {
            System.exit(1);
        }
    }
}
