import com.sun.source.tree.AssertTree;
import com.sun.source.tree.ClassTree;
import com.sun.source.tree.CompilationUnitTree;
import com.sun.source.tree.LambdaExpressionTree;
import com.sun.source.tree.MemberReferenceTree;
import com.sun.source.tree.MethodInvocationTree;
import com.sun.source.tree.MethodTree;
import com.sun.source.tree.NewClassTree;
import com.sun.source.tree.SynchronizedTree;
import com.sun.source.tree.TryTree;
import com.sun.source.tree.VariableTree;
import com.sun.source.util.JavacTask;
import com.sun.source.util.SourcePositions;
import com.sun.source.util.TreePathScanner;
import com.sun.source.util.Trees;
import java.io.IOException;
import java.nio.file.Path;
import java.util.ArrayList;
import java.util.LinkedHashSet;
import java.util.List;
import java.util.Map;
import java.util.Set;
import java.util.TreeMap;
import java.util.TreeSet;
import javax.lang.model.element.Element;
import javax.lang.model.element.ElementKind;
import javax.lang.model.element.Modifier;
import javax.tools.JavaCompiler;
import javax.tools.StandardJavaFileManager;
import javax.tools.ToolProvider;

/** Some rules of ../shared/LANGUAGE.md, read off the source: each fault is printed with its rule's number. */
public final class StoneSecretsLanguage {
    private static final Path SOURCE = Path.of("src/main/java/StoneSecrets.java");
    private static final String OWN = "StoneSecrets";
    private static final int MOST_PARAMETERS = 7;
    private static final int MOST_LINES = 60;
    private static final int MOST_CALLS_DEEP = 8;
    private static final int MOST_CLASSES = 12;
    private static final int MOST_FIELDS = 20;
    /** Of rule 4 only what the class has come to need; what is missing here may be added from there. */
    private static final Set<String> LIBRARY = Set.of("java.util.Arrays.fill", "java.lang.System.arraycopy", "java.lang.Integer.bitCount",
        "java.lang.Math.max", "java.lang.Math.min", "java.lang.Math.abs");
    private static final Set<String> EXCEPTIONS = Set.of("java.lang.IllegalStateException", "java.lang.IllegalArgumentException",
        "java.lang.IndexOutOfBoundsException", "java.lang.ArithmeticException", "java.lang.UnsupportedOperationException",
        "java.util.NoSuchElementException", "java.lang.RuntimeException");
    private static final Set<String> PLAIN_TYPES = Set.of("int", "long", "short", "byte", "char", "boolean", "double", "float", "java.lang.String");

    private static int wrong = 0;

    private static void check(int rule, String what, boolean right) {
        if (!right) {
            wrong++;
            System.out.println("rule " + rule + ": " + what);
        }
    }

    /** Walks the source once; which method calls which stays in the calls. */
    private static final class Reader extends TreePathScanner<Void, Void> {
        final Trees trees;
        final CompilationUnitTree unit;
        final Map<String, Set<String>> calls = new TreeMap<>();
        final Set<String> face = new TreeSet<>();
        int classes;
        private String method = "";

        Reader(Trees trees, CompilationUnitTree unit) {
            this.trees = trees;
            this.unit = unit;
        }

        private static String nameOf(Element element) {
            return element.getEnclosingElement() + "." + element.getSimpleName();
        }

        private static boolean isOwn(String name) {
            return name.equals(OWN) || name.startsWith(OWN + ".");
        }

        private int linesOf(MethodTree tree) {
            SourcePositions positions = trees.getSourcePositions();
            long first = unit.getLineMap().getLineNumber(positions.getStartPosition(unit, tree));
            long last = unit.getLineMap().getLineNumber(positions.getEndPosition(unit, tree));
            return (int) (last - first) + 1;
        }

        @Override
        public Void visitClass(ClassTree tree, Void none) {
            classes++;
            int fields = 0;
            for (Element member : trees.getElement(getCurrentPath()).getEnclosedElements()) {
                if (member.getKind() == ElementKind.FIELD && !member.getModifiers().contains(Modifier.STATIC)) {
                    fields++;
                }
            }
            check(11, fields + " fields: " + tree.getSimpleName(), fields <= MOST_FIELDS);
            return super.visitClass(tree, none);
        }

        @Override
        public Void visitMethod(MethodTree tree, Void none) {
            String outer = method;
            Element element = trees.getElement(getCurrentPath());
            method = nameOf(element);
            calls.putIfAbsent(method, new TreeSet<>());
            if (element.getModifiers().contains(Modifier.PUBLIC)) {
                face.add(method);
            }
            check(11, tree.getParameters().size() + " parameters: " + method, tree.getParameters().size() <= MOST_PARAMETERS);
            check(11, linesOf(tree) + " lines: " + method, linesOf(tree) <= MOST_LINES);
            super.visitMethod(tree, none);
            method = outer;
            return null;
        }

        @Override
        public Void visitMethodInvocation(MethodInvocationTree tree, Void none) {
            Element called = trees.getElement(getCurrentPath());
            String name = nameOf(called);
            if (isOwn(called.getEnclosingElement().toString())) {
                calls.get(method).add(name);
            } else if (called.getKind() != ElementKind.CONSTRUCTOR) {
                check(4, "a call of " + name + " in " + method, LIBRARY.contains(name));
            }
            return super.visitMethodInvocation(tree, none);
        }

        @Override
        public Void visitNewClass(NewClassTree tree, Void none) {
            String made = trees.getElement(getCurrentPath()).getEnclosingElement().toString();
            check(6, "new " + made, isOwn(made) || EXCEPTIONS.contains(made));
            return super.visitNewClass(tree, none);
        }

        @Override
        public Void visitVariable(VariableTree tree, Void none) {
            Element element = trees.getElement(getCurrentPath());
            String type = element.asType().toString().replace("[]", "");
            check(3, "the type " + type + " of " + tree.getName(), isOwn(type) || PLAIN_TYPES.contains(type));
            if (element.getModifiers().contains(Modifier.STATIC)) {
                check(5, "static, but not final: " + tree.getName(), element.getModifiers().contains(Modifier.FINAL));
                check(5, "static, but no number: " + tree.getName(), PLAIN_TYPES.contains(type));
            }
            return super.visitVariable(tree, none);
        }

        @Override
        public Void visitTry(TryTree tree, Void none) {
            check(6, "finally or resources in " + method, tree.getFinallyBlock() == null && tree.getResources().isEmpty());
            return super.visitTry(tree, none);
        }

        @Override
        public Void visitLambdaExpression(LambdaExpressionTree tree, Void none) {
            check(2, "a lambda in " + method, false);
            return super.visitLambdaExpression(tree, none);
        }

        @Override
        public Void visitMemberReference(MemberReferenceTree tree, Void none) {
            check(2, "a method reference in " + method, false);
            return super.visitMemberReference(tree, none);
        }

        @Override
        public Void visitAssert(AssertTree tree, Void none) {
            check(6, "assert in " + method, false);
            return super.visitAssert(tree, none);
        }

        @Override
        public Void visitSynchronized(SynchronizedTree tree, Void none) {
            check(6, "synchronized in " + method, false);
            return super.visitSynchronized(tree, none);
        }
    }

    /** The longest chain of calls from a method on, each method once: one that stands open already is recursion. */
    private static List<String> deepest(Map<String, Set<String>> calls, String method, LinkedHashSet<String> open) {
        List<String> longest = new ArrayList<>();
        open.add(method);
        for (String called : calls.getOrDefault(method, Set.of())) {
            if (!open.contains(called)) {
                List<String> chain = deepest(calls, called, open);
                longest = chain.size() > longest.size() ? chain : longest;
            }
        }
        open.remove(method);
        longest.add(0, method);
        return longest;
    }

    private static void checkTexts(CharSequence text) {
        for (int i = 0; i < text.length(); i++) {
            check(4, "a sign beyond 127, at " + i, text.charAt(i) < 128);
        }
    }

    public static void main(String[] args) throws IOException {
        JavaCompiler compiler = ToolProvider.getSystemJavaCompiler();
        try (StandardJavaFileManager files = compiler.getStandardFileManager(null, null, null)) {
            JavacTask task = (JavacTask) compiler.getTask(null, files, null, List.of("-proc:none"), null, files.getJavaFileObjects(SOURCE));
            CompilationUnitTree unit = task.parse().iterator().next();
            task.analyze();
            Reader reader = new Reader(Trees.instance(task), unit);
            reader.scan(unit, null);
            check(11, reader.classes + " classes", reader.classes <= MOST_CLASSES);
            check(1, "the face was not found", reader.face.size() > 40);
            for (String call : reader.face) {
                List<String> chain = deepest(reader.calls, call, new LinkedHashSet<>());
                check(11, chain.size() + " calls deep: " + chain, chain.size() <= MOST_CALLS_DEEP);
            }
            checkTexts(unit.getSourceFile().getCharContent(false));
        }
        System.out.println(wrong == 0 ? "the source is as due" : wrong + " are not as due");
        if (wrong != 0) {
            System.exit(1);
        }
    }
}
