import com.sun.source.tree.BinaryTree;
import com.sun.source.tree.ClassTree;
import com.sun.source.tree.CompilationUnitTree;
import com.sun.source.tree.ImportTree;
import com.sun.source.tree.LiteralTree;
import com.sun.source.tree.MethodInvocationTree;
import com.sun.source.tree.MethodTree;
import com.sun.source.tree.NewArrayTree;
import com.sun.source.tree.NewClassTree;
import com.sun.source.tree.Tree;
import com.sun.source.tree.VariableTree;
import com.sun.source.util.JavacTask;
import com.sun.source.util.SourcePositions;
import com.sun.source.util.TreePath;
import com.sun.source.util.TreePathScanner;
import com.sun.source.util.Trees;
import java.io.File;
import java.lang.reflect.Constructor;
import java.lang.reflect.Field;
import java.lang.reflect.Method;
import java.lang.reflect.Modifier;
import java.util.EnumSet;
import java.util.HashMap;
import java.util.HashSet;
import java.util.List;
import java.util.Map;
import java.util.Set;
import java.util.TreeSet;
import javax.lang.model.element.Element;
import javax.lang.model.element.ExecutableElement;
import javax.lang.model.element.VariableElement;
import javax.tools.JavaCompiler;
import javax.tools.StandardJavaFileManager;
import javax.tools.ToolProvider;

/** The program keeps to the rules of ../shared/LANGUAGE.md, as far as its text tells. */
public final class LanguageTest {
    private static final String FILE = "src/main/java/DevilsFount.java";
    private static final Set<String> FACE = Set.of("int state(int)", "boolean set(int,int,int)",
        "boolean act(int,int)", "int days(int)", "int feed(int,int,int,int,int)", "boolean end(int)", "int text(int)",
        "int fault(int)", "int of(int,int)", "int job(int,int)", "int devils(int,int)", "int tray(int,int)",
        "int goes(int,int)", "int out()", "boolean place(int,int,int)", "int letter(int)", "int square()",
        "int numbers()", "int sign(int)", "int pattern()", "int turned(int)", "int front(int)", "int row(int)",
        "int seven(int,int)", "int over(int,int)", "int ring(int,int,int)", "int columns(int,int)",
        "boolean value(int,int)", "int values(int)", "int game(int)", "boolean undo()", "boolean image(boolean)",
        "int look(int)");
    private static final Set<Tree.Kind> FORBIDDEN = EnumSet.of(Tree.Kind.THROW, Tree.Kind.TRY, Tree.Kind.CATCH,
        Tree.Kind.SYNCHRONIZED, Tree.Kind.ASSERT, Tree.Kind.LAMBDA_EXPRESSION, Tree.Kind.MEMBER_REFERENCE);
    /** The library's classes, and which of their methods may be called. */
    private static final Map<String, Set<String>> LIBRARY = Map.of(
        "java.lang.String", Set.of("length", "charAt", "isEmpty", "equals", "indexOf", "substring", "toCharArray"),
        "java.lang.StringBuilder", Set.of("append", "charAt", "setCharAt", "setLength", "deleteCharAt", "reverse", "length",
            "toString"),
        "java.util.ArrayList", Set.of("add", "get", "set", "remove", "size", "isEmpty", "clear"),
        "java.util.List", Set.of("add", "get", "set", "remove", "size", "isEmpty", "clear", "of"),
        "java.util.Iterator", Set.of("hasNext", "next"),
        "java.util.Arrays", Set.of("copyOf", "copyOfRange", "fill"),
        "java.lang.System", Set.of("arraycopy"),
        "java.lang.Object", Set.of("clone"));
    private static final Set<String> NUMBERS = Set.of("java.lang.Integer", "java.lang.Long", "java.lang.Math");
    private static final Set<String> IMPORTS = Set.of("java.util.ArrayList", "java.util.List", "java.util.Iterator",
        "java.util.Arrays");
    private static final Set<String> NUMBER_TYPES = Set.of("int", "long", "short", "byte", "char", "boolean", "double",
        "float");
    private static final Set<String> OTHER_TYPES = Set.of("java.lang.String", "java.lang.StringBuilder",
        "java.lang.Integer", "java.util.ArrayList", "java.util.List", "java.util.Iterator");
    /** Some sixty lines a method, some twelve classes, some twenty fields, says the rule. */
    private static final int MOST_LINES = 64;
    private static final int MOST_PARAMETERS = 7;
    private static final int MOST_DEEP = 8;
    private static final int MOST_CLASSES = 13;
    private static final int MOST_FIELDS = 22;

    private static int wrong;

    private static void check(boolean holds, String told) {
        if (!holds) {
            wrong++;
            System.out.println(told);
        }
    }

    public static void main(String[] args) throws Exception {
        face();
        text();
        System.out.println(wrong == 0 ? "the program keeps to the rules" : wrong + " rules are broken");
        if (wrong != 0) {
            System.exit(1);
        }
    }

    private static String parameters(Class<?>[] types) {
        StringBuilder told = new StringBuilder();
        for (Class<?> type : types) {
            told.append(told.length() == 0 ? "" : ",").append(type.getSimpleName());
        }
        return "(" + told + ")";
    }

    private static void face() {
        Class<?> program = DevilsFount.class;
        Set<String> names = new HashSet<>();
        for (String method : FACE) {
            names.add(method.substring(method.indexOf(' ') + 1, method.indexOf('(')));
        }
        check(Modifier.isPublic(program.getModifiers()) && Modifier.isFinal(program.getModifiers()), "public and final");
        Set<String> found = new TreeSet<>();
        for (Method m : program.getDeclaredMethods()) {
            if (!Modifier.isPrivate(m.getModifiers())) {
                check(Modifier.isPublic(m.getModifiers()) && !Modifier.isStatic(m.getModifiers()), "public: " + m);
                found.add(m.getReturnType().getSimpleName() + " " + m.getName() + parameters(m.getParameterTypes()));
            } else {
                check(!names.contains(m.getName()), "a name of the face: " + m);
            }
        }
        check(found.equals(new TreeSet<>(FACE)), "the methods of the face: " + found);
        for (Field f : program.getDeclaredFields()) {
            check(Modifier.isPrivate(f.getModifiers()) || f.getName().equals("NONE"), "private: " + f);
        }
        Constructor<?>[] made = program.getDeclaredConstructors();
        check(made.length == 1 && Modifier.isPublic(made[0].getModifiers()) && made[0].getParameterCount() == 0,
            "one public constructor");
        Class<?>[] inside = program.getDeclaredClasses();
        check(inside.length + 1 <= MOST_CLASSES, "classes: " + (inside.length + 1));
        for (Class<?> c : inside) {
            check(Modifier.isStatic(c.getModifiers()) && !Modifier.isPublic(c.getModifiers()), "static: " + c);
            for (Method m : c.getDeclaredMethods()) {
                check(!Modifier.isPrivate(m.getModifiers()) || !names.contains(m.getName()), "a name of the face: " + m);
            }
            fields(c);
        }
        fields(program);
    }

    private static void fields(Class<?> c) {
        int fields = 0;
        for (Field f : c.getDeclaredFields()) {
            if (Modifier.isStatic(f.getModifiers())) {
                check(Modifier.isFinal(f.getModifiers()), "final: " + f);
            } else {
                fields++;
            }
        }
        check(fields <= MOST_FIELDS, "fields of " + c + ": " + fields);
    }

    private static void text() throws Exception {
        JavaCompiler compiler = ToolProvider.getSystemJavaCompiler();
        try (StandardJavaFileManager files = compiler.getStandardFileManager(null, null, null)) {
            JavacTask task = (JavacTask) compiler.getTask(null, files, null, List.of("-proc:none"), null,
                files.getJavaFileObjects(new File(FILE)));
            CompilationUnitTree unit = task.parse().iterator().next();
            task.analyze();
            check(unit.getPackageName() == null, "no package");
            for (ImportTree told : unit.getImports()) {
                check(IMPORTS.contains(told.getQualifiedIdentifier().toString()), "import: " + told);
            }
            Scan scan = new Scan(Trees.instance(task), unit);
            scan.scan(new TreePath(unit), null);
            scan.depths();
        }
    }

    private static final class Scan extends TreePathScanner<Void, Void> {
        private final Trees trees;
        private final SourcePositions positions;
        private final CompilationUnitTree unit;
        private final Map<String, Set<String>> calls = new HashMap<>();
        private String method = "";
        /** Whether what is scanned is done when an object is made: a constructor, or a field's first value. */
        private boolean making = true;

        Scan(Trees trees, CompilationUnitTree unit) {
            this.trees = trees;
            this.unit = unit;
            positions = trees.getSourcePositions();
        }

        private long line(long place) {
            return unit.getLineMap().getLineNumber(place);
        }

        private String where(Tree tree) {
            return FILE + ":" + line(positions.getStartPosition(unit, tree));
        }

        @Override
        public Void scan(Tree tree, Void v) {
            if (tree != null) {
                check(!FORBIDDEN.contains(tree.getKind()), where(tree) + " " + tree.getKind());
            }
            return super.scan(tree, v);
        }

        @Override
        public Void visitMethod(MethodTree tree, Void v) {
            long lines = line(positions.getEndPosition(unit, tree)) - line(positions.getStartPosition(unit, tree)) + 1;
            check(lines <= MOST_LINES, where(tree) + " lines: " + lines);
            check(tree.getParameters().size() <= MOST_PARAMETERS, where(tree) + " parameters");
            String outer = method;
            method = name(trees.getElement(getCurrentPath()));
            making = tree.getName().contentEquals("<init>");
            calls.putIfAbsent(method, new HashSet<>());
            super.visitMethod(tree, v);
            method = outer;
            making = true;
            return null;
        }

        private static String name(Element e) {
            return e.getEnclosingElement() + "." + e;
        }

        @Override
        public Void visitMethodInvocation(MethodInvocationTree tree, Void v) {
            Element called = trees.getElement(getCurrentPath());
            if (called instanceof ExecutableElement) {
                String owner = called.getEnclosingElement().toString().replaceAll("<.*", "");
                String name = called.getSimpleName().toString();
                if (owner.startsWith("DevilsFount")) {
                    calls.computeIfAbsent(method, m -> new HashSet<>()).add(name(called));
                } else if (!name.equals("<init>")) {
                    boolean listed = LIBRARY.getOrDefault(owner, Set.of()).contains(name)
                        || NUMBERS.contains(owner) && !name.endsWith("Exact");
                    check(listed || owner.equals("Array") && name.equals("clone"), where(tree) + " " + tree);
                }
            }
            return super.visitMethodInvocation(tree, v);
        }

        @Override
        public Void visitNewClass(NewClassTree tree, Void v) {
            String type = trees.getTypeMirror(getCurrentPath()).toString();
            check(isOwn(type) || Set.of("java.lang.String", "java.lang.StringBuilder", "java.util.ArrayList")
                .contains(type.replaceAll("<.*", "")), where(tree) + " " + tree);
            check(tree.getClassBody() == null, where(tree) + " anonymous");
            check(making, where(tree) + " a call makes an object, and all that a run makes is counted");
            return super.visitNewClass(tree, v);
        }

        @Override
        public Void visitNewArray(NewArrayTree tree, Void v) {
            check(making, where(tree) + " a call makes an array, and all that a run makes is counted");
            return super.visitNewArray(tree, v);
        }

        private static boolean isOwn(String type) {
            return type.startsWith("DevilsFount") || type.matches("[A-Z]");
        }

        @Override
        public Void visitClass(ClassTree tree, Void v) {
            Element e = trees.getElement(getCurrentPath());
            check(e.getEnclosingElement() != null && method.isEmpty(), where(tree) + " a class in a method");
            return super.visitClass(tree, v);
        }

        @Override
        public Void visitBinary(BinaryTree tree, Void v) {
            String type = trees.getTypeMirror(getCurrentPath()).toString();
            check(!type.equals("java.lang.String"), where(tree) + " texts are joined: " + tree);
            if (tree.getKind() == Tree.Kind.EQUAL_TO || tree.getKind() == Tree.Kind.NOT_EQUAL_TO) {
                String left = typeOf(tree.getLeftOperand());
                String right = typeOf(tree.getRightOperand());
                check(!left.equals(right) || !Set.of("java.lang.String", "java.lang.Integer").contains(left),
                    where(tree) + " " + tree);
            }
            return super.visitBinary(tree, v);
        }

        private String typeOf(Tree tree) {
            return String.valueOf(trees.getTypeMirror(new TreePath(getCurrentPath(), tree)));
        }

        @Override
        public Void visitVariable(VariableTree tree, Void v) {
            VariableElement e = (VariableElement) trees.getElement(getCurrentPath());
            String type = e.asType().toString();
            String plain = type.replaceAll("<.*>", "").replaceAll("(\\[\\])+$", "");
            boolean row = type.endsWith("[]");
            boolean rows = type.endsWith("[][]");
            check(NUMBER_TYPES.contains(plain) && !type.endsWith("[][][]") || isOwn(plain) && !rows
                || OTHER_TYPES.contains(plain) && !row, where(tree) + " " + type);
            return super.visitVariable(tree, v);
        }

        @Override
        public Void visitLiteral(LiteralTree tree, Void v) {
            if (tree.getValue() instanceof String) {
                for (char c : ((String) tree.getValue()).toCharArray()) {
                    check(c >= 1 && c <= 127, where(tree) + " a sign beyond 127");
                }
            }
            return super.visitLiteral(tree, v);
        }

        /** How many calls stand open at once; a recursion, of one method or of some, counts each method once. */
        void depths() {
            Map<String, Integer> known = new HashMap<>();
            for (String m : calls.keySet()) {
                int depth = depth(m, known, new HashSet<>());
                check(depth <= MOST_DEEP, m + " goes " + depth + " deep");
            }
        }

        private int depth(String m, Map<String, Integer> known, Set<String> open) {
            if (known.containsKey(m)) {
                return known.get(m);
            }
            open.add(m);
            int deepest = 0;
            for (String called : calls.getOrDefault(m, Set.of())) {
                if (!called.equals(m)) {
                    if (!open.contains(called)) {
                        deepest = Math.max(deepest, depth(called, known, open));
                    }
                }
            }
            open.remove(m);
            known.put(m, deepest + 1);
            return deepest + 1;
        }
    }
}
