import com.sun.source.tree.BinaryTree;
import com.sun.source.tree.ClassTree;
import com.sun.source.tree.CompilationUnitTree;
import com.sun.source.tree.LineMap;
import com.sun.source.tree.MethodInvocationTree;
import com.sun.source.tree.MethodTree;
import com.sun.source.tree.NewArrayTree;
import com.sun.source.tree.NewClassTree;
import com.sun.source.tree.Tree;
import com.sun.source.tree.VariableTree;
import com.sun.source.util.JavacTask;
import com.sun.source.util.TreePathScanner;
import com.sun.source.util.Trees;
import java.nio.file.Path;
import java.util.ArrayDeque;
import java.util.Deque;
import java.util.EnumSet;
import java.util.HashSet;
import java.util.List;
import java.util.Map;
import java.util.Set;
import java.util.TreeMap;
import java.util.TreeSet;
import javax.lang.model.element.Element;
import javax.lang.model.element.Modifier;
import javax.lang.model.element.NestingKind;
import javax.lang.model.element.TypeElement;
import javax.lang.model.type.ArrayType;
import javax.lang.model.type.TypeKind;
import javax.lang.model.type.TypeMirror;
import javax.tools.JavaCompiler;
import javax.tools.StandardJavaFileManager;
import javax.tools.ToolProvider;

/** The rules of LANGUAGE.md that need the compiler's tree: who calls whom, where objects are made, which library is used. */
public final class LanguageTreeTest {
    private static final Set<Tree.Kind> FORBIDDEN = EnumSet.of(Tree.Kind.LAMBDA_EXPRESSION, Tree.Kind.MEMBER_REFERENCE, Tree.Kind.THROW,
            Tree.Kind.TRY, Tree.Kind.CATCH, Tree.Kind.SYNCHRONIZED, Tree.Kind.ASSERT, Tree.Kind.FLOAT_LITERAL, Tree.Kind.DOUBLE_LITERAL,
            Tree.Kind.ANNOTATION, Tree.Kind.IMPORT, Tree.Kind.PACKAGE);
    private static final Set<String> LIBRARY = Set.of("java.lang.String.length", "java.lang.String.charAt", "java.lang.String.indexOf",
            "java.lang.Integer.bitCount", "java.lang.Math.abs", "java.lang.Math.min", "java.lang.Math.max", "java.lang.System.arraycopy");
    private static final int DEEPEST = 8;

    // Each method or constructor, and those of SilkRise's own that it calls.
    private final Map<String, Set<String>> calls = new TreeMap<>();
    private final Deque<String> methods = new ArrayDeque<>();
    private final Trees trees;
    private final CompilationUnitTree unit;

    private LanguageTreeTest(Trees trees, CompilationUnitTree unit) {
        this.trees = trees;
        this.unit = unit;
    }

    public static void main(String[] args) throws Exception {
        JavaCompiler compiler = ToolProvider.getSystemJavaCompiler();
        try (StandardJavaFileManager files = compiler.getStandardFileManager(null, null, null)) {
            JavacTask task = (JavacTask) compiler.getTask(null, files, null, List.of("-proc:none"), null,
                    files.getJavaFileObjects(Path.of("src/main/java/SilkRise.java")));
            CompilationUnitTree unit = task.parse().iterator().next();
            task.analyze();
            LanguageTreeTest test = new LanguageTreeTest(Trees.instance(task), unit);
            test.look();
            test.depths();
        }
        Due.end("LanguageTreeTest");
    }

    private String where(Tree tree) {
        LineMap lines = unit.getLineMap();
        return "line " + lines.getLineNumber(trees.getSourcePositions().getStartPosition(unit, tree)) + ": ";
    }

    private static String named(Element method) {
        return method.getEnclosingElement() + "." + method.getSimpleName();
    }

    private void look() {
        new TreePathScanner<Void, Void>() {
            @Override
            public Void scan(Tree tree, Void nothing) {
                if (tree != null) {
                    Due.due(where(tree) + "of a kind that is ruled out: " + tree.getKind(), FORBIDDEN.contains(tree.getKind()), false);
                }
                return super.scan(tree, nothing);
            }

            @Override
            public Void visitClass(ClassTree tree, Void nothing) {
                TypeElement type = (TypeElement) trees.getElement(getCurrentPath());
                boolean inside = type.getNestingKind() == NestingKind.MEMBER && type.getModifiers().contains(Modifier.STATIC);
                Due.due(where(tree) + "a class that stands free", inside || type.getNestingKind() == NestingKind.TOP_LEVEL, true);
                return super.visitClass(tree, nothing);
            }

            @Override
            public Void visitMethod(MethodTree tree, Void nothing) {
                String name = named(trees.getElement(getCurrentPath()));
                calls.putIfAbsent(name, new TreeSet<>());
                methods.push(name);
                super.visitMethod(tree, nothing);
                methods.pop();
                return null;
            }

            @Override
            public Void visitMethodInvocation(MethodInvocationTree tree, Void nothing) {
                called(tree, trees.getElement(getCurrentPath()));
                return super.visitMethodInvocation(tree, nothing);
            }

            @Override
            public Void visitNewClass(NewClassTree tree, Void nothing) {
                called(tree, trees.getElement(getCurrentPath()));
                Due.due(where(tree) + "an object is made by a constructor", methods.peek().endsWith(".<init>"), true);
                return super.visitNewClass(tree, nothing);
            }

            @Override
            public Void visitNewArray(NewArrayTree tree, Void nothing) {
                Due.due(where(tree) + "an array is made by a constructor", methods.peek().endsWith(".<init>"), true);
                return super.visitNewArray(tree, nothing);
            }

            @Override
            public Void visitVariable(VariableTree tree, Void nothing) {
                Element variable = trees.getElement(getCurrentPath());
                Due.due(where(tree) + "a type that is allowed: " + variable.asType(), isAllowed(variable.asType()), true);
                boolean fixed = variable.getModifiers().contains(Modifier.STATIC);
                boolean written = variable.getModifiers().contains(Modifier.FINAL) && tree.getInitializer() != null;
                Due.due(where(tree) + "a static field is a constant", !fixed || written, true);
                return super.visitVariable(tree, nothing);
            }

            @Override
            public Void visitBinary(BinaryTree tree, Void nothing) {
                TypeMirror left = trees.getTypeMirror(new com.sun.source.util.TreePath(getCurrentPath(), tree.getLeftOperand()));
                boolean text = left != null && left.toString().equals("java.lang.String");
                Due.due(where(tree) + "no texts joined or compared by signs", text, false);
                return super.visitBinary(tree, nothing);
            }
        }.scan(unit, null);
    }

    private void called(Tree tree, Element to) {
        String name = named(to);
        if (name.startsWith("java.lang.Object.")) {
            return;
        }
        if (name.startsWith("SilkRise")) {
            String from = methods.isEmpty() ? "" : methods.peek();
            calls.computeIfAbsent(from, f -> new TreeSet<>()).add(name);
        } else {
            Due.due(where(tree) + "a library that is allowed: " + name, LIBRARY.contains(name), true);
        }
    }

    private static boolean isAllowed(TypeMirror type) {
        int dimensions = 0;
        TypeMirror part = type;
        while (part.getKind() == TypeKind.ARRAY) {
            part = ((ArrayType) part).getComponentType();
            dimensions++;
        }
        if (part.getKind().isPrimitive()) {
            return dimensions <= 2 && part.getKind() != TypeKind.FLOAT && part.getKind() != TypeKind.DOUBLE;
        }
        boolean own = part.toString().startsWith("SilkRise");
        return own ? dimensions <= 1 : dimensions == 0 && part.toString().equals("java.lang.String");
    }

    private boolean reaches(String from, String to, Set<String> passed) {
        for (String next : calls.getOrDefault(from, Set.of())) {
            if (next.equals(to) || passed.add(next) && reaches(next, to, passed)) {
                return true;
            }
        }
        return false;
    }

    private boolean isRecursive(String method) {
        return reaches(method, method, new HashSet<>());
    }

    /** How deep the calls go; those that call one another are one level together. */
    private int depth(String method, Set<String> open) {
        int deepest = 0;
        for (String next : calls.getOrDefault(method, Set.of())) {
            if (open.contains(next)) {
                continue;
            }
            boolean together = reaches(next, method, new HashSet<>());
            Set<String> more = new HashSet<>(open);
            more.add(next);
            deepest = Math.max(deepest, depth(next, more) - (together ? 1 : 0));
        }
        return deepest + 1;
    }

    private void depths() {
        Due.due("methods seen", calls.size() > 100, true);
        Set<String> recursive = new TreeSet<>();
        for (String method : calls.keySet()) {
            if (isRecursive(method)) {
                recursive.add(method);
            }
            int depth = depth(method, Set.of(method));
            Due.due("the calls from " + method + " on are " + depth + " deep", depth <= DEEPEST, true);
        }
        // Those that carry how deep a ( stands; another one would need a guard of its own.
        Set<String> known = Set.of("SilkRise.Reader.sum", "SilkRise.Reader.product", "SilkRise.Reader.unit");
        Due.due("what calls itself: " + recursive, recursive.equals(known), true);
    }
}
