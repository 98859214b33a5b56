import com.sun.source.tree.AssertTree;
import com.sun.source.tree.BinaryTree;
import com.sun.source.tree.ClassTree;
import com.sun.source.tree.CompilationUnitTree;
import com.sun.source.tree.ExpressionTree;
import com.sun.source.tree.IdentifierTree;
import com.sun.source.tree.LambdaExpressionTree;
import com.sun.source.tree.LiteralTree;
import com.sun.source.tree.MemberReferenceTree;
import com.sun.source.tree.MemberSelectTree;
import com.sun.source.tree.MethodInvocationTree;
import com.sun.source.tree.MethodTree;
import com.sun.source.tree.NewClassTree;
import com.sun.source.tree.SynchronizedTree;
import com.sun.source.tree.ThrowTree;
import com.sun.source.tree.Tree;
import com.sun.source.tree.TryTree;
import com.sun.source.tree.VariableTree;
import com.sun.source.util.JavacTask;
import com.sun.source.util.TreeScanner;
import java.io.File;
import java.io.IOException;
import java.lang.reflect.Constructor;
import java.lang.reflect.Field;
import java.lang.reflect.Method;
import java.lang.reflect.Modifier;
import java.nio.file.Files;
import java.util.ArrayList;
import java.util.Arrays;
import java.util.HashMap;
import java.util.HashSet;
import java.util.List;
import java.util.Map;
import java.util.Set;
import java.util.TreeSet;
import java.util.regex.Matcher;
import java.util.regex.Pattern;
import javax.tools.JavaCompiler;
import javax.tools.StandardJavaFileManager;
import javax.tools.ToolProvider;

/** The face of the class, and those rules of LANGUAGE.md that can be told from the text. */
public final class LanguageTest {
    private static final String SOURCE = "src/main/java/MakerLines.java";
    private static final String[] FACE = {
        "int begin(int) IllegalArgumentException",
        "int addLine(int) IllegalArgumentException IllegalStateException",
        "int removeLine(int) IndexOutOfBoundsException",
        "int clear(boolean)",
        "int move(int) IndexOutOfBoundsException IllegalStateException",
        "int skip() IllegalStateException",
        "int play(int int int) IllegalArgumentException IllegalStateException",
        "int append(int) IllegalArgumentException IllegalStateException",
        "int clearBuffer()",
        "int firstError()",
        "int read() IllegalArgumentException IllegalStateException",
        "int take(int) IndexOutOfBoundsException",
        "int restore(int) IndexOutOfBoundsException IllegalStateException",
        "int undo() IllegalStateException",
        "int line(int int) IndexOutOfBoundsException IllegalArgumentException",
        "int cell(int int) IndexOutOfBoundsException IllegalArgumentException",
        "int reply(int) IllegalArgumentException",
        "int solved(int) IllegalArgumentException",
        "int ifMoved(int) IndexOutOfBoundsException",
        "int ifPlayed(int int) IllegalArgumentException",
        "int count(int) IllegalArgumentException",
        "double weightShare()",
        "long digest()"};
    /** The headings of the interface, and the calls behind each of them. */
    private static final String HEADINGS = "---- board, lines: begin addLine removeLine clear\n"
        + "---- moves: move skip play\n"
        + "---- texts, snapshots: append clearBuffer firstError read take restore undo\n"
        + "---- looks; nothing is changed: line cell reply solved ifMoved ifPlayed count weightShare digest\n";
    private static final Set<String> EXCEPTIONS = Set.of("IllegalStateException",
        "IllegalArgumentException", "IndexOutOfBoundsException");
    /** What the program calls of the library; rule 4 of LANGUAGE.md must list what is added here. */
    private static final Set<String> LIBRARY = Set.of("Integer.bitCount", "Math.max");
    private static final int MOST_LINES_OF_METHOD = 60;
    private static final int MOST_PARAMETERS = 7;
    private static final int MOST_CLASSES = 12;
    private static final int MOST_FIELDS = 20;
    private static final int DEEPEST_CALLS = 8;

    private static int wrong = 0;

    public static void main(String[] args) throws IOException {
        face();
        String text = Files.readString(new File(SOURCE).toPath());
        for (char c : text.toCharArray()) {
            must(c == '\n' || c >= 32 && c < 127, "a sign of the source is " + (int) c);
        }
        String headings = headings(text);
        must(headings.equals(HEADINGS), "the headings of the interface: " + headings);
        CompilationUnitTree unit = parsed();
        must(unit.getImports().isEmpty() && unit.getPackage() == null, "no import, no package line");
        must(unit.getTypeDecls().size() == 1, "one class on top");
        Rules rules = new Rules(text);
        rules.scan(unit, null);
        must(rules.classes <= MOST_CLASSES, "classes: " + rules.classes);
        rules.depths();
        System.out.println(rules.classes + " classes, " + rules.calls.size() + " methods, calls "
            + rules.deepest + " deep; rules broken: " + wrong);
        if (wrong != 0) {
            System.exit(1);
        }
    }

    private static void must(boolean holds, String what) {
        if (!holds) {
            wrong++;
            System.out.println("broken: " + what);
        }
    }

    private static CompilationUnitTree parsed() throws IOException {
        JavaCompiler compiler = ToolProvider.getSystemJavaCompiler();
        try (StandardJavaFileManager files = compiler.getStandardFileManager(null, null, null)) {
            JavacTask task = (JavacTask) compiler.getTask(null, files, null, null, null,
                files.getJavaFileObjects(new File(SOURCE)));
            return task.parse().iterator().next();
        }
    }

    /** Each heading of the text that has public methods behind it, with their names. */
    private static String headings(String text) {
        StringBuilder told = new StringBuilder();
        for (String part : text.split("(?m)^    // (?=----)")) {
            StringBuilder names = new StringBuilder();
            Matcher method = Pattern.compile("(?m)^    public \\w+ (\\w+)\\(").matcher(part);
            while (method.find()) {
                names.append(' ').append(method.group(1));
            }
            if (names.length() > 0) {
                told.append(part.split("\n")[0]).append(':').append(names).append('\n');
            }
        }
        return told.toString();
    }

    // ---- the face, by reflection

    private static void face() {
        Class<?> main = MakerLines.class;
        must(Modifier.isPublic(main.getModifiers()) && Modifier.isFinal(main.getModifiers()),
            "the class is public and final");
        Set<String> names = new HashSet<>();
        Set<String> found = new TreeSet<>();
        for (Method method : main.getDeclaredMethods()) {
            if (!Modifier.isPrivate(method.getModifiers())) {
                found.add(told(method));
                names.add(method.getName());
                must(Modifier.isPublic(method.getModifiers()), method.getName() + " is public");
            }
        }
        must(found.equals(new TreeSet<>(Arrays.asList(FACE))), "the methods of the face: " + found);
        for (Constructor<?> maker : main.getDeclaredConstructors()) {
            must(Modifier.isPublic(maker.getModifiers()) && maker.getParameterCount() == 0, "constructor");
        }
        List<Class<?>> all = new ArrayList<>(Arrays.asList(main.getDeclaredClasses()));
        for (Class<?> inside : all) {
            int bits = inside.getModifiers();
            must(Modifier.isStatic(bits) && !Modifier.isPublic(bits) && !Modifier.isProtected(bits),
                inside.getName() + " is static and hidden");
        }
        all.add(main);
        for (Class<?> one : all) {
            fields(one, one == main);
            for (Method method : one.getDeclaredMethods()) {
                must(one == main && Modifier.isPublic(method.getModifiers())
                    || !names.contains(method.getName()), "a name of the face: " + method);
            }
        }
    }

    private static String told(Method method) {
        StringBuilder text = new StringBuilder(method.getReturnType() + " " + method.getName() + "(");
        String gap = "";
        for (Class<?> type : method.getParameterTypes()) {
            text.append(gap).append(type);
            gap = " ";
        }
        text.append(")");
        for (Class<?> type : method.getExceptionTypes()) {
            text.append(" ").append(type.getSimpleName());
        }
        return text.toString();
    }

    private static void fields(Class<?> one, boolean isMain) {
        int many = 0;
        for (Field field : one.getDeclaredFields()) {
            int bits = field.getModifiers();
            boolean isStatic = Modifier.isStatic(bits);
            many += isStatic ? 0 : 1;
            must(!isStatic || Modifier.isFinal(bits), "a static field is final: " + field);
            boolean isNone = field.getName().equals("NONE");
            must(!isMain || Modifier.isPrivate(bits) != isNone, "a hidden field: " + field);
        }
        must(many <= MOST_FIELDS, "fields of " + one + ": " + many);
    }

    // ---- the text, as a tree

    private static final class Rules extends TreeScanner<Void, Void> {
        final String text;
        final Map<String, Set<String>> calls = new HashMap<>();
        int classes = 0;
        int deepest = 0;
        private String method = "";

        Rules(String text) {
            this.text = text;
        }

        @Override
        public Void visitClass(ClassTree tree, Void v) {
            classes++;
            for (Tree member : tree.getMembers()) {
                must(member.getKind() != Tree.Kind.BLOCK, "no initialiser block");
            }
            return super.visitClass(tree, v);
        }

        @Override
        public Void visitMethod(MethodTree tree, Void v) {
            method = tree.getName().toString();
            must(tree.getParameters().size() <= MOST_PARAMETERS, "parameters of " + method);
            int lines = tree.toString().split("\n").length;
            must(lines <= MOST_LINES_OF_METHOD, "lines of " + method + ": " + lines);
            calls.computeIfAbsent(method, k -> new TreeSet<>());
            Void result = super.visitMethod(tree, v);
            method = "";
            return result;
        }

        @Override
        public Void visitMethodInvocation(MethodInvocationTree tree, Void v) {
            ExpressionTree called = tree.getMethodSelect();
            String name = called instanceof MemberSelectTree
                ? ((MemberSelectTree) called).getIdentifier().toString() : called.toString();
            boolean isLibrary = called instanceof MemberSelectTree
                && Character.isUpperCase(called.toString().charAt(0));
            must(!isLibrary || LIBRARY.contains(called.toString()), "a call of the library: " + called);
            if (!isLibrary && !name.equals("super")) {
                must(!method.isEmpty(), "a call outside of methods: " + called);
                calls.computeIfAbsent(method, k -> new TreeSet<>()).add(name);
            }
            return super.visitMethodInvocation(tree, v);
        }

        @Override
        public Void visitThrow(ThrowTree tree, Void v) {
            boolean isGood = tree.getExpression() instanceof NewClassTree;
            if (isGood) {
                NewClassTree made = (NewClassTree) tree.getExpression();
                isGood = EXCEPTIONS.contains(made.getIdentifier().toString());
                for (ExpressionTree argument : made.getArguments()) {
                    isGood &= argument instanceof LiteralTree;
                }
            }
            must(isGood, "a throw: " + tree);
            must(!method.equals("<init>"), "a throw in a constructor");
            return super.visitThrow(tree, v);
        }

        @Override
        public Void visitBinary(BinaryTree tree, Void v) {
            boolean joins = tree.getKind() == Tree.Kind.PLUS
                && (isText(tree.getLeftOperand()) || isText(tree.getRightOperand()));
            must(!joins, "texts joined by +: " + tree);
            must(tree.getKind() != Tree.Kind.REMAINDER, "a divisor: " + tree);
            must(tree.getKind() != Tree.Kind.DIVIDE || tree.toString().contains("MAX_CELLS / 2")
                || tree.toString().contains("/ (double)FULL_WEIGHT"), "a divisor: " + tree);
            return super.visitBinary(tree, v);
        }

        private static boolean isText(ExpressionTree tree) {
            return tree.getKind() == Tree.Kind.STRING_LITERAL;
        }

        @Override
        public Void visitVariable(VariableTree tree, Void v) {
            must(tree.getType() != null, "a type is written out: " + tree);
            return super.visitVariable(tree, v);
        }

        @Override
        public Void visitLambdaExpression(LambdaExpressionTree tree, Void v) {
            must(false, "a lambda: " + tree);
            return null;
        }

        @Override
        public Void visitMemberReference(MemberReferenceTree tree, Void v) {
            must(false, "a method reference: " + tree);
            return null;
        }

        @Override
        public Void visitTry(TryTree tree, Void v) {
            must(false, "a try: " + tree);
            return null;
        }

        @Override
        public Void visitAssert(AssertTree tree, Void v) {
            must(false, "an assert: " + tree);
            return null;
        }

        @Override
        public Void visitSynchronized(SynchronizedTree tree, Void v) {
            must(false, "synchronized: " + tree);
            return null;
        }

        @Override
        public Void visitIdentifier(IdentifierTree tree, Void v) {
            String name = tree.getName().toString();
            must(!Set.of("System", "Thread", "Object", "Class").contains(name), "not listed: " + name);
            return super.visitIdentifier(tree, v);
        }

        /** The longest chain of calls, no method twice in it. */
        void depths() {
            for (String name : calls.keySet()) {
                deepest = Math.max(deepest, depth(name, new HashSet<>()));
            }
            must(deepest <= DEEPEST_CALLS, "calls are " + deepest + " deep");
        }

        private int depth(String name, Set<String> open) {
            if (!calls.containsKey(name) || !open.add(name)) {
                return 0;
            }
            int below = 0;
            for (String called : calls.get(name)) {
                below = Math.max(below, depth(called, open));
            }
            open.remove(name);
            return below + 1;
        }
    }
}
