import com.sun.source.tree.AssertTree;
import com.sun.source.tree.BinaryTree;
import com.sun.source.tree.BlockTree;
import com.sun.source.tree.CatchTree;
import com.sun.source.tree.ClassTree;
import com.sun.source.tree.CompilationUnitTree;
import com.sun.source.tree.CompoundAssignmentTree;
import com.sun.source.tree.DoWhileLoopTree;
import com.sun.source.tree.ExpressionTree;
import com.sun.source.tree.ForLoopTree;
import com.sun.source.tree.LambdaExpressionTree;
import com.sun.source.tree.LiteralTree;
import com.sun.source.tree.MemberReferenceTree;
import com.sun.source.tree.MethodInvocationTree;
import com.sun.source.tree.MethodTree;
import com.sun.source.tree.NewArrayTree;
import com.sun.source.tree.NewClassTree;
import com.sun.source.tree.SynchronizedTree;
import com.sun.source.tree.ThrowTree;
import com.sun.source.tree.Tree;
import com.sun.source.tree.TryTree;
import com.sun.source.tree.VariableTree;
import com.sun.source.tree.WhileLoopTree;
import com.sun.source.util.JavacTask;
import com.sun.source.util.TreePath;
import com.sun.source.util.TreePathScanner;
import com.sun.source.util.Trees;
import java.io.IOException;
import java.net.URI;
import java.nio.file.Files;
import java.nio.file.Path;
import java.util.ArrayList;
import java.util.HashMap;
import java.util.HashSet;
import java.util.List;
import java.util.Map;
import java.util.Set;
import java.util.TreeSet;
import javax.lang.model.element.Element;
import javax.lang.model.element.ExecutableElement;
import javax.lang.model.element.Modifier;
import javax.lang.model.type.TypeMirror;
import javax.tools.JavaFileObject;
import javax.tools.SimpleJavaFileObject;
import javax.tools.ToolProvider;

/**
 * The rules of LANGUAGE.md that show in the source. What can't be seen there (that a loop ends,
 * that an index is looked at before it is used) is left to reading and to the runs of calls.
 */
public final class RunHeapLanguage {

    private static final String SOURCE = "src/main/java/RunHeap.java";
    private static final int MOST_PARAMETERS = 7;
    private static final int MOST_LINES = 60;
    private static final int MOST_CALLS_DEEP = 8;
    private static final int MOST_CLASSES = 12;
    private static final int MOST_FIELDS = 20;

    private static final Set<String> EXCEPTIONS = Set.of("java.lang.IllegalStateException",
            "java.lang.IllegalArgumentException", "java.lang.IndexOutOfBoundsException",
            "java.lang.ArithmeticException", "java.lang.UnsupportedOperationException",
            "java.util.NoSuchElementException", "java.lang.RuntimeException");
    private static final Set<String> TYPES = Set.of("int", "long", "short", "byte", "char",
            "boolean", "double", "float", "java.lang.String", "java.lang.StringBuilder");
    private static final Set<String> CONSTANTS = Set.of("int", "long", "boolean", "char",
            "java.lang.String", "int[]", "long[]", "char[]", "byte[]");
    private static final Map<String, Set<String>> LIBRARY = Map.of(
            "java.lang.String", Set.of("length", "charAt", "isEmpty", "equals", "indexOf",
                    "substring", "toCharArray"),
            "java.lang.StringBuilder", Set.of("append", "charAt", "setCharAt", "setLength",
                    "deleteCharAt", "reverse", "length", "toString"),
            "java.util.ArrayList", Set.of("add", "get", "set", "remove", "size", "isEmpty",
                    "clear"),
            "java.util.List", Set.of("add", "get", "set", "remove", "size", "isEmpty", "clear",
                    "of"),
            "java.lang.Math", Set.of("max", "min", "abs", "floorDiv", "floorMod"),
            "java.lang.Integer", Set.of("compare", "max", "min", "bitCount"),
            "java.lang.Long", Set.of("compare", "max", "min", "bitCount"),
            "java.lang.System", Set.of("arraycopy"),
            "java.util.Arrays", Set.of("copyOf", "copyOfRange", "fill"),
            "Array", Set.of("clone"));

    private static int wrong = 0;

    public static void main(String[] args) throws IOException {
        String source = Files.readString(Path.of(SOURCE));
        for (String fault : faultsOf(source)) {
            wrong++;
            System.out.println(SOURCE + ": " + fault);
        }
        everyBreakIsSeen(source);
        System.out.println(wrong == 0 ? "the source keeps to the rules" : wrong + " faults");
        if (wrong != 0) {
            System.exit(1);
        }
    }

    /** This test would be of no use if it did not see a source that breaks a rule. */
    private static void everyBreakIsSeen(String source) {
        dueBreak("1", "package heap;\n" + source);
        dueBreak("1", source + "class Beside { }\n");
        dueBreak("1", with(source, "class NotStatic { }"));
        dueBreak("1", with(source, "int shown;"));
        dueBreak("1", with(source, "void shown() { }"));
        dueBreak("1", with(source, "private int give() { return 0; }"));
        dueBreak("2", with(source, "private void x() { Runnable r = () -> { }; }"));
        dueBreak("2", with(source, "private void x() { Runnable r = this::largest; }"));
        dueBreak("2", with(source, "private void x() { class Local { } }"));
        dueBreak("3", with(source, "private int[][][] x;"));
        dueBreak("3", with(source, "private Row[][] x;"));
        dueBreak("3", with(source, "private Object x;"));
        dueBreak("3", with(source, "private static java.util.Random x() { return null; }"));
        dueBreak("3", with(source, "private char x = '\u0394';"));
        dueBreak("4", "import java.util.Random;\n" + source);
        dueBreak("4", with(source, "private int x() { return Math.addExact(1, 2); }"));
        dueBreak("4", with(source, "private double x() { return Math.sqrt(2); }"));
        dueBreak("4", with(source, "private double x() { return Math.max(2.0, 1.0); }"));
        dueBreak("4", with(source, "private int x() { return \"a\".hashCode(); }"));
        dueBreak("4", with(source, "private void x() { System.out.println(); }"));
        dueBreak("4", with(source, "private void x() { new Thread(); }"));
        dueBreak("5", with(source, "private static int x = 1;"));
        dueBreak("5", with(source, "private static final Row X = null;"));
        dueBreak("5", with(source, "private static final int[] X = new int[3];"));
        dueBreak("5", with(source, "static { }"));
        dueBreak("6", with(source, "private void x() { throw new Error(); }"));
        dueBreak("6", with(source, "private void x(String s) { throw new "
                + "RuntimeException(s); }"));
        dueBreak("6", with(source, "private void x(RuntimeException e) { throw e; }"));
        dueBreak("6", with(source, "private RunHeap() { throw new RuntimeException(); }"));
        dueBreak("6", with(source, "private void x() { try { apply(); } finally { apply(); } }"));
        dueBreak("6", with(source, "private void x() { try { apply(); } catch (Exception e) { } "
                + "}"));
        dueBreak("6", with(source, "private void x() { try { throw new RuntimeException(); } "
                + "catch (RuntimeException e) { } }"));
        dueBreak("6", with(source, "private void x() { assert true; }"));
        dueBreak("6", with(source, "private void x() { synchronized (this) { } }"));
        dueBreak("6", with(source, "private boolean x() { return \"a\" == \"b\"; }"));
        dueBreak("8", with(source, "private int x() { return y(); } "
                + "private int y() { return x(); }"));
        dueBreak("9", with(source, "private void x() { for (;;) { } }"));
        dueBreak("9", with(source, "private void x() { while (true) { } }"));
        dueBreak("9", with(source, "private void x() { do { } while (true); }"));
        dueBreak("10", with(source, "private String x(int i) { return \"a\" + i; }"));
        dueBreak("10", with(source, "private String x(String s) { s += 1; return s; }"));
        dueBreak("11", with(source, "private void x(int a, int b, int c, int d, int e, int f, "
                + "int g, int h) { }"));
        dueBreak("11", with(source, "private void x() {" + "\n".repeat(60) + "}"));
        dueBreak("11", with(source, "private void a() { b(); } private void b() { c(); } "
                + "private void c() { d(); } private void d() { e(); } private void e() { f(); } "
                + "private void f() { g(); } private void g() { h(); } private void h() { i(); } "
                + "private void i() { }"));
        StringBuilder many = new StringBuilder();
        StringBuilder fields = new StringBuilder();
        for (int i = 0; i < 20; i++) {
            many.append("private static class X").append(i).append(" { } ");
            fields.append("private int x").append(i).append("; ");
        }
        dueBreak("11", with(source, many.toString()));
        dueBreak("11", with(source, fields.toString()));
        dueBreak("12", with(source, "private int[] x() { return new int[1]; }"));
        dueBreak("12", with(source, "private Moves x() { return new Moves(1); }"));
    }

    private static String with(String source, String member) {
        return source.substring(0, source.lastIndexOf('}')) + member + "\n}\n";
    }

    private static void dueBreak(String rule, String source) {
        Set<String> rules = new TreeSet<>();
        faultsOf(source).forEach(fault -> rules.add(fault.replaceFirst("rule (\\d+):.*", "$1")));
        if (!rules.contains(rule)) {
            wrong++;
            String[] lines = source.split("\n");
            System.out.println("not seen, rule " + rule + ": " + lines[lines.length - 2]);
        }
    }

    private static List<String> faultsOf(String source) {
        JavaFileObject file = new SimpleJavaFileObject(URI.create("string:///RunHeap.java"),
                JavaFileObject.Kind.SOURCE) {
            @Override
            public CharSequence getCharContent(boolean ignored) {
                return source;
            }
        };
        JavacTask task = (JavacTask) ToolProvider.getSystemJavaCompiler().getTask(null, null,
                said -> { }, List.of("-proc:none"), null, List.of(file));
        try {
            CompilationUnitTree unit = task.parse().iterator().next();
            task.analyze();
            Reader reader = new Reader(Trees.instance(task), unit);
            reader.readUnit(source);
            return reader.faults;
        } catch (IOException e) {
            return List.of("rule 0: " + e);
        }
    }

    /** Goes over the whole source and notes what breaks a rule. */
    private static final class Reader extends TreePathScanner<Void, Void> {
        final List<String> faults = new ArrayList<>();
        private final Trees trees;
        private final CompilationUnitTree unit;
        private final Map<String, Set<String>> called = new HashMap<>();
        private final Set<String> faceNames = new HashSet<>();
        private int classes = 0;

        Reader(Trees trees, CompilationUnitTree unit) {
            this.trees = trees;
            this.unit = unit;
        }

        private void fault(int rule, Tree at, String text) {
            long start = trees.getSourcePositions().getStartPosition(unit, at);
            faults.add("rule " + rule + ": line " + unit.getLineMap().getLineNumber(start) + ": "
                    + text);
        }

        void readUnit(String source) {
            if (unit.getPackageName() != null || unit.getTypeDecls().size() != 1) {
                fault(1, unit, "one class, without a package");
            }
            if (!source.chars().allMatch(sign -> sign < 128)) {
                fault(3, unit, "a sign above 127");
            }
            for (var line : unit.getImports()) {
                String name = line.getQualifiedIdentifier().toString();
                if (!EXCEPTIONS.contains(name) && !LIBRARY.containsKey(name)
                        && !name.equals("java.util.Iterator")) {
                    fault(4, line, "import " + name);
                }
            }
            for (Tree member : ((ClassTree) unit.getTypeDecls().get(0)).getMembers()) {
                if (member instanceof MethodTree method && isPublic(method)) {
                    faceNames.add(method.getName().toString());
                }
            }
            scan(unit, null);
            if (classes > MOST_CLASSES) {
                fault(11, unit, classes + " classes");
            }
            for (String method : called.keySet()) {
                readCalls(method, new ArrayList<>());
            }
        }

        private static boolean isPublic(MethodTree method) {
            return method.getModifiers().getFlags().contains(Modifier.PUBLIC);
        }

        private static boolean isFace(ClassTree tree) {
            return tree.getSimpleName().contentEquals("RunHeap");
        }

        /** The calls that stand open at once; a method that is among them already calls itself. */
        private void readCalls(String method, List<String> open) {
            if (open.contains(method)) {
                fault(8, unit, method + " calls itself");
                return;
            }
            open.add(method);
            if (open.size() > MOST_CALLS_DEEP) {
                fault(11, unit, "too deep: " + open);
            } else {
                for (String next : called.getOrDefault(method, Set.of())) {
                    readCalls(next, open);
                }
            }
            open.remove(open.size() - 1);
        }

        private TypeMirror typeOf(Tree tree) {
            return trees.getTypeMirror(new TreePath(getCurrentPath(), tree));
        }

        private static boolean isOwn(String type) {
            return type.equals("RunHeap") || type.startsWith("RunHeap.");
        }

        private void readType(Tree type) {
            String name = String.valueOf(typeOf(type));
            String element = name.replace("[]", "");
            int dimensions = (name.length() - element.length()) / 2;
            boolean list = element.matches("java\\.util\\.(ArrayList|List)<.*>");
            boolean number = TYPES.contains(element) && !element.startsWith("java.");
            boolean known = isOwn(element) || TYPES.contains(element) || list && dimensions == 0;
            if (!known || dimensions > (number ? 2 : 1)) {
                fault(3, type, "the type " + name);
            }
        }

        private MethodTree methodAround() {
            for (TreePath at = getCurrentPath(); at != null; at = at.getParentPath()) {
                if (at.getLeaf() instanceof MethodTree method) {
                    return method;
                }
            }
            return null;
        }

        private boolean inConstructor() {
            MethodTree around = methodAround();
            return around != null && around.getReturnType() == null;
        }

        @Override
        public Void visitClass(ClassTree tree, Void none) {
            classes++;
            Tree outside = getCurrentPath().getParentPath().getLeaf();
            boolean inside = outside instanceof ClassTree;
            Set<Modifier> flags = tree.getModifiers().getFlags();
            if (inside && tree.getKind() == Tree.Kind.CLASS && !flags.contains(Modifier.STATIC)) {
                fault(1, tree, "a class inside is not static");
            }
            if (!inside && !(outside instanceof CompilationUnitTree)) {
                fault(2, tree, "a class in a method");
            }
            long fields = tree.getMembers().stream().filter(member -> member instanceof VariableTree
                    field && !field.getModifiers().getFlags().contains(Modifier.STATIC)).count();
            if (fields > MOST_FIELDS) {
                fault(11, tree, fields + " fields");
            }
            return super.visitClass(tree, none);
        }

        @Override
        public Void visitVariable(VariableTree tree, Void none) {
            Tree outside = getCurrentPath().getParentPath().getLeaf();
            Set<Modifier> flags = tree.getModifiers().getFlags();
            if (outside instanceof ClassTree around && isFace(around)
                    && !flags.contains(Modifier.PRIVATE) && !flags.contains(Modifier.PUBLIC)) {
                fault(1, tree, tree.getName() + " is not private");
            }
            if (flags.contains(Modifier.STATIC)) {
                readConstant(tree, flags);
            } else if (!(outside instanceof CatchTree)) {
                readType(tree.getType());
            }
            return super.visitVariable(tree, none);
        }

        private void readConstant(VariableTree tree, Set<Modifier> flags) {
            String type = String.valueOf(typeOf(tree.getType()));
            String value = String.valueOf(tree.getInitializer());
            boolean written = !type.endsWith("[]") || value.contains("{");
            if (!flags.contains(Modifier.FINAL) || !CONSTANTS.contains(type) || !written) {
                fault(5, tree, "the static field " + tree.getName());
            }
        }

        @Override
        public Void visitBlock(BlockTree tree, Void none) {
            if (tree.isStatic()) {
                fault(5, tree, "a static block");
            }
            return super.visitBlock(tree, none);
        }

        @Override
        public Void visitMethod(MethodTree tree, Void none) {
            ClassTree around = (ClassTree) getCurrentPath().getParentPath().getLeaf();
            Set<Modifier> flags = tree.getModifiers().getFlags();
            boolean hidden = flags.contains(Modifier.PRIVATE);
            if (isFace(around) && !hidden && !isPublic(tree)) {
                fault(1, tree, tree.getName() + " is not private");
            }
            if (hidden && faceNames.contains(tree.getName().toString())
                    && tree.getReturnType() != null) {
                fault(1, tree, tree.getName() + " bears a public method's name");
            }
            if (tree.getReturnType() != null && !tree.getReturnType().toString().equals("void")) {
                readType(tree.getReturnType());
            }
            if (tree.getParameters().size() > MOST_PARAMETERS) {
                fault(11, tree, tree.getName() + " has too many parameters");
            }
            long from = trees.getSourcePositions().getStartPosition(unit, tree);
            long to = trees.getSourcePositions().getEndPosition(unit, tree);
            if (unit.getLineMap().getLineNumber(to) - unit.getLineMap().getLineNumber(from)
                    >= MOST_LINES) {
                fault(11, tree, tree.getName() + " is too long");
            }
            return super.visitMethod(tree, none);
        }

        @Override
        public Void visitMethodInvocation(MethodInvocationTree tree, Void none) {
            Element element = trees.getElement(getCurrentPath());
            if (element instanceof ExecutableElement method) {
                String owner = method.getEnclosingElement().toString();
                if (isOwn(owner)) {
                    noteCall(owner + "." + method);
                } else if (!method.getSimpleName().contentEquals("<init>")) {
                    readLibraryCall(tree, owner, method);
                }
            }
            return super.visitMethodInvocation(tree, none);
        }

        private void noteCall(String method) {
            MethodTree around = methodAround();
            if (around != null) {
                Element caller = trees.getElement(trees.getPath(unit, around));
                called.computeIfAbsent(caller.getEnclosingElement() + "." + caller,
                        name -> new TreeSet<>()).add(method);
            }
        }

        private void readLibraryCall(Tree at, String owner, ExecutableElement method) {
            String name = method.getSimpleName().toString();
            boolean real = method.toString().matches(".*(double|float).*");
            boolean listed = LIBRARY.getOrDefault(owner, Set.of()).contains(name);
            if (!listed || real && owner.equals("java.lang.Math")) {
                fault(4, at, "the call " + owner + "." + method);
            }
        }

        @Override
        public Void visitNewClass(NewClassTree tree, Void none) {
            String type = String.valueOf(typeOf(tree.getIdentifier()));
            boolean thrown = getCurrentPath().getParentPath().getLeaf() instanceof ThrowTree;
            boolean library =
                    type.matches("java\\.lang\\.String(Builder)?|java\\.util\\.ArrayList.*");
            if (!isOwn(type) && !library && !thrown) {
                fault(4, tree, "new " + type);
            }
            if (!thrown && !inConstructor()) {
                fault(12, tree, "an object is made outside the constructors");
            }
            return super.visitNewClass(tree, none);
        }

        /** Stricter than the rule: all rows are made once, as the project asks. */
        @Override
        public Void visitNewArray(NewArrayTree tree, Void none) {
            boolean constant = methodAround() == null && tree.getInitializers() != null;
            if (!constant && !inConstructor()) {
                fault(12, tree, "an array is made outside the constructors");
            }
            return super.visitNewArray(tree, none);
        }

        @Override
        public Void visitThrow(ThrowTree tree, Void none) {
            if (!(tree.getExpression() instanceof NewClassTree made)) {
                fault(6, tree, "what is thrown is not new");
                return super.visitThrow(tree, none);
            }
            List<? extends ExpressionTree> texts = made.getArguments();
            boolean written = texts.isEmpty()
                    || texts.size() == 1 && texts.get(0) instanceof LiteralTree;
            String type = String.valueOf(trees.getTypeMirror(new TreePath(
                    new TreePath(getCurrentPath(), made), made.getIdentifier())));
            if (!EXCEPTIONS.contains(type) || !written || inConstructor()) {
                fault(6, tree, "throws " + made);
            }
            if (methodAround() != null && methodAround().toString().contains("try {")) {
                fault(6, tree, "a throw in a method with try");
            }
            return super.visitThrow(tree, none);
        }

        @Override
        public Void visitTry(TryTree tree, Void none) {
            if (tree.getFinallyBlock() != null || !tree.getResources().isEmpty()) {
                fault(6, tree, "try with finally or with resources");
            }
            return super.visitTry(tree, none);
        }

        @Override
        public Void visitCatch(CatchTree tree, Void none) {
            String type = String.valueOf(trees.getTypeMirror(new TreePath(new TreePath(
                    getCurrentPath(), tree.getParameter()), tree.getParameter().getType())));
            if (!EXCEPTIONS.contains(type)) {
                fault(6, tree, "catches " + type);
            }
            return super.visitCatch(tree, none);
        }

        @Override
        public Void visitAssert(AssertTree tree, Void none) {
            fault(6, tree, "assert");
            return super.visitAssert(tree, none);
        }

        @Override
        public Void visitSynchronized(SynchronizedTree tree, Void none) {
            fault(6, tree, "synchronized");
            return super.visitSynchronized(tree, none);
        }

        @Override
        public Void visitLambdaExpression(LambdaExpressionTree tree, Void none) {
            fault(2, tree, "a lambda");
            return super.visitLambdaExpression(tree, none);
        }

        @Override
        public Void visitMemberReference(MemberReferenceTree tree, Void none) {
            fault(2, tree, "a method reference");
            return super.visitMemberReference(tree, none);
        }

        @Override
        public Void visitBinary(BinaryTree tree, Void none) {
            boolean same = tree.getKind() == Tree.Kind.EQUAL_TO
                    || tree.getKind() == Tree.Kind.NOT_EQUAL_TO;
            String left = String.valueOf(typeOf(tree.getLeftOperand()));
            if (same && left.matches("java\\.lang\\.(String|Integer)")) {
                fault(6, tree, "== between texts or Integers");
            }
            if (tree.getKind() == Tree.Kind.PLUS
                    && String.valueOf(trees.getTypeMirror(getCurrentPath())).contains("String")) {
                fault(10, tree, "texts joined by +");
            }
            return super.visitBinary(tree, none);
        }

        @Override
        public Void visitCompoundAssignment(CompoundAssignmentTree tree, Void none) {
            if (String.valueOf(typeOf(tree.getVariable())).contains("String")) {
                fault(10, tree, "texts joined by +=");
            }
            return super.visitCompoundAssignment(tree, none);
        }

        private void readLoop(Tree loop, ExpressionTree condition) {
            String end = condition == null ? "" : condition.toString().replaceAll("[()]", "");
            if (end.isEmpty() || end.equals("true")) {
                fault(9, loop, "a loop without an end of its own");
            }
        }

        @Override
        public Void visitForLoop(ForLoopTree tree, Void none) {
            readLoop(tree, tree.getCondition());
            return super.visitForLoop(tree, none);
        }

        @Override
        public Void visitWhileLoop(WhileLoopTree tree, Void none) {
            readLoop(tree, tree.getCondition());
            return super.visitWhileLoop(tree, none);
        }

        @Override
        public Void visitDoWhileLoop(DoWhileLoopTree tree, Void none) {
            readLoop(tree, tree.getCondition());
            return super.visitDoWhileLoop(tree, none);
        }
    }
}
