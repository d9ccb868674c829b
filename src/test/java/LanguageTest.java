import com.sun.source.tree.AssertTree;
import com.sun.source.tree.BlockTree;
import com.sun.source.tree.CatchTree;
import com.sun.source.tree.ClassTree;
import com.sun.source.tree.CompilationUnitTree;
import com.sun.source.tree.ImportTree;
import com.sun.source.tree.LambdaExpressionTree;
import com.sun.source.tree.MemberReferenceTree;
import com.sun.source.tree.MethodInvocationTree;
import com.sun.source.tree.MethodTree;
import com.sun.source.tree.NewArrayTree;
import com.sun.source.tree.NewClassTree;
import com.sun.source.tree.SynchronizedTree;
import com.sun.source.tree.ThrowTree;
import com.sun.source.tree.Tree;
import com.sun.source.tree.TryTree;
import com.sun.source.tree.VariableTree;
import com.sun.source.util.JavacTask;
import com.sun.source.util.TreePath;
import com.sun.source.util.TreePathScanner;
import com.sun.source.util.Trees;
import java.io.IOException;
import java.lang.reflect.Constructor;
import java.lang.reflect.Field;
import java.lang.reflect.Method;
import java.nio.file.Files;
import java.nio.file.Path;
import java.util.ArrayList;
import java.util.HashSet;
import java.util.LinkedHashMap;
import java.util.List;
import java.util.Map;
import java.util.Set;
import java.util.TreeSet;
import java.util.stream.Collectors;
import java.util.stream.Stream;
import javax.lang.model.element.Element;
import javax.lang.model.element.ExecutableElement;
import javax.lang.model.element.Modifier;
import javax.lang.model.element.TypeElement;
import javax.tools.JavaCompiler;
import javax.tools.StandardJavaFileManager;
import javax.tools.ToolProvider;

/** The class against the face in DOC.md, and against those rules of LANGUAGE.md that can be seen in its text. */
public final class LanguageTest {
    private static final Path SOURCE = Path.of("src", "main", "java", "PullThePlug.java");
    private static final Path DOC = Path.of("..", "shared", "DOC.md");
    private static final Set<String> LIBRARY = Set.of("Math.max", "Math.min", "Math.abs", "Integer.bitCount",
        "System.arraycopy", "Object.<init>");
    private static final Set<String> THROWN = Set.of("IllegalStateException", "IllegalArgumentException",
        "IndexOutOfBoundsException", "ArithmeticException", "UnsupportedOperationException", "NoSuchElementException",
        "RuntimeException");
    /** What may be thrown by the machine itself is not to be caught, nor what stands above it. */
    private static final Set<String> CAUGHT = Set.of("IllegalStateException", "IllegalArgumentException",
        "UnsupportedOperationException", "NoSuchElementException");
    /** The only method that makes something, once for an object. */
    private static final Set<String> MAKERS = Set.of("takeTidemarks");
    private static final int MOST_PARAMETERS = 7;
    private static final int MOST_LINES = 60;
    private static final int MOST_CLASSES = 12;
    private static final int MOST_FIELDS = 20;
    private static final int DEEPEST = 8;
    private static final Check check = new Check();

    public static void main(String[] args) throws IOException {
        checkFace();
        checkText();
        check.finish("LanguageTest");
    }

    // ---- rule 1: the face

    private static void checkFace() throws IOException {
        Class<?> face = PullThePlug.class;
        Set<String> want = faceOfDocument();
        Set<String> got = new TreeSet<>();
        for (Field f : face.getDeclaredFields()) {
            if (!java.lang.reflect.Modifier.isPrivate(f.getModifiers())) {
                got.add(java.lang.reflect.Modifier.toString(f.getModifiers()) + " " + f.getType() + " " + f.getName());
            }
        }
        for (Constructor<?> c : face.getDeclaredConstructors()) {
            got.add(java.lang.reflect.Modifier.toString(c.getModifiers()) + " " + face.getName() + types(c.getParameterTypes()));
        }
        for (Method m : face.getDeclaredMethods()) {
            if (!java.lang.reflect.Modifier.isPrivate(m.getModifiers())) {
                got.add(java.lang.reflect.Modifier.toString(m.getModifiers()) + " " + m.getReturnType() + " " + m.getName()
                    + types(m.getParameterTypes()) + thrown(m.getExceptionTypes()));
            }
        }
        for (String member : want) {
            check.due("rule 1, the document's " + member + " is there", got.contains(member), true);
        }
        for (String member : got) {
            check.due("rule 1, " + member + " is the document's", want.contains(member), true);
        }
        check.due("rule 1, members of the face", want.size(), 51);
        check.due("rule 1, the class is public and final", face.getModifiers() & (java.lang.reflect.Modifier.PUBLIC
            | java.lang.reflect.Modifier.FINAL), java.lang.reflect.Modifier.PUBLIC | java.lang.reflect.Modifier.FINAL);
    }

    private static String types(Class<?>[] all) {
        return Stream.of(all).map(Class::getSimpleName).collect(Collectors.joining(", ", "(", ")"));
    }

    private static String thrown(Class<?>[] all) {
        return all.length == 0 ? "" : " throws " + Stream.of(all).map(Class::getSimpleName).collect(Collectors.joining(", "));
    }

    /** The members in the document's face, without the names of parameters and what the constant is. */
    private static Set<String> faceOfDocument() throws IOException {
        Set<String> all = new TreeSet<>();
        for (String line : Files.readAllLines(DOC)) {
            if (line.startsWith("    public ") && line.endsWith(";")) {
                String member = line.substring(4, line.length() - 1).replaceAll(" = .*", "");
                all.add(member.replaceAll("\\b(int|long) \\w+(?=[,)])", "$1"));
            }
        }
        return all;
    }

    // ---- what can be seen in the text

    private static void checkText() throws IOException {
        JavaCompiler javac = ToolProvider.getSystemJavaCompiler();
        try (StandardJavaFileManager files = javac.getStandardFileManager(null, null, null)) {
            JavacTask task = (JavacTask) javac.getTask(null, files, null, List.of("-proc:none", "--release", "17"), null,
                files.getJavaFileObjects(SOURCE));
            Iterable<? extends CompilationUnitTree> units = task.parse();
            task.analyze();
            for (CompilationUnitTree unit : units) {
                Reader reader = new Reader(Trees.instance(task), unit);
                reader.scan(unit, null);
                reader.finish();
            }
        }
    }

    /** Goes through the whole text, looks at each place, and takes down which method calls which. */
    private static final class Reader extends TreePathScanner<Void, Void> {
        private final Trees trees;
        private final CompilationUnitTree unit;
        private final Map<String, Set<String>> calls = new LinkedHashMap<>();
        private final Set<String> faceNames = new HashSet<>();
        private int classes;

        private Reader(Trees trees, CompilationUnitTree unit) {
            this.trees = trees;
            this.unit = unit;
            for (Method m : PullThePlug.class.getMethods()) {
                if (m.getDeclaringClass() == PullThePlug.class) {
                    faceNames.add(m.getName());
                }
            }
        }

        private void finish() {
            check.due("rule 11, classes", classes <= MOST_CLASSES, true);
            for (String method : calls.keySet()) {
                int deep = new Depth(calls).of(method);
                check.due("rule 11, " + method + " goes " + deep + " calls deep", deep <= DEEPEST, true);
            }
        }

        private void fault(int rule, Tree place, String what) {
            long line = unit.getLineMap().getLineNumber(start(place));
            check.due("rule " + rule + ", line " + line + ": " + what, false, true);
        }

        private long start(Tree place) {
            return trees.getSourcePositions().getStartPosition(unit, place);
        }

        private MethodTree method() {
            for (TreePath p = getCurrentPath(); p != null; p = p.getParentPath()) {
                if (p.getLeaf() instanceof MethodTree m) {
                    return m;
                }
            }
            return null;
        }

        private static String nameOf(Element method) {
            Element owner = method.getEnclosingElement();
            return owner.getSimpleName() + "." + method;
        }

        @Override
        public Void visitImport(ImportTree t, Void v) {
            if (!t.getQualifiedIdentifier().toString().equals("java.util.NoSuchElementException")) {
                fault(4, t, "only NoSuchElementException is brought in");
            }
            return super.visitImport(t, v);
        }

        @Override
        public Void visitClass(ClassTree t, Void v) {
            classes++;
            Set<Modifier> flags = t.getModifiers().getFlags();
            boolean isFace = t.getSimpleName().contentEquals("PullThePlug");
            if (!isFace && (!flags.contains(Modifier.STATIC) || flags.contains(Modifier.PUBLIC)
                || flags.contains(Modifier.PROTECTED))) {
                fault(1, t, "a class inside is static, and private or package-visible");
            }
            int fields = 0;
            for (Tree member : t.getMembers()) {
                if (member instanceof VariableTree field) {
                    fields += isConstant(field) ? 0 : 1;
                } else if (member instanceof BlockTree block && block.isStatic()) {
                    fault(5, block, "no static initialiser block");
                }
            }
            check.due("rule 11, fields of " + t.getSimpleName(), fields <= MOST_FIELDS, true);
            return super.visitClass(t, v);
        }

        private boolean isConstant(VariableTree field) {
            Set<Modifier> flags = field.getModifiers().getFlags();
            if (flags.contains(Modifier.STATIC) && !flags.contains(Modifier.FINAL)) {
                fault(5, field, "a static field is final");
            }
            return flags.contains(Modifier.STATIC);
        }

        @Override
        public Void visitMethod(MethodTree t, Void v) {
            String name = t.getName().toString();
            Element element = trees.getElement(getCurrentPath());
            calls.putIfAbsent(nameOf(element), new TreeSet<>());
            if (t.getModifiers().getFlags().contains(Modifier.PRIVATE) && faceNames.contains(name)) {
                fault(1, t, "a private method bears the name of a public one, " + name);
            }
            if (t.getParameters().size() > MOST_PARAMETERS) {
                fault(11, t, name + " takes too many parameters");
            }
            long from = unit.getLineMap().getLineNumber(Math.max(0, start(t)));
            long to = unit.getLineMap().getLineNumber(Math.max(0, trees.getSourcePositions().getEndPosition(unit, t)));
            check.due("rule 11, lines of " + name, to - from < MOST_LINES, true);
            return super.visitMethod(t, v);
        }

        @Override
        public Void visitMethodInvocation(MethodInvocationTree t, Void v) {
            takeCall(t);
            return super.visitMethodInvocation(t, v);
        }

        @Override
        public Void visitNewClass(NewClassTree t, Void v) {
            boolean isThrown = getCurrentPath().getParentPath().getLeaf() instanceof ThrowTree;
            if (!isThrown) {
                takeCall(t);
                lookAtMaker(t);
            }
            return super.visitNewClass(t, v);
        }

        @Override
        public Void visitNewArray(NewArrayTree t, Void v) {
            lookAtMaker(t);
            return super.visitNewArray(t, v);
        }

        private void lookAtMaker(Tree t) {
            MethodTree in = method();
            boolean isMade = in == null || in.getName().contentEquals("<init>") || MAKERS.contains(in.getName().toString());
            if (!isMade) {
                fault(12, t, "a call makes something: " + in.getName());
            }
        }

        private void takeCall(Tree t) {
            if (!(trees.getElement(getCurrentPath()) instanceof ExecutableElement callee)) {
                fault(4, t, "it can't be told what is called");
                return;
            }
            TypeElement owner = (TypeElement) callee.getEnclosingElement();
            boolean isOwn = owner.getQualifiedName().toString().startsWith("PullThePlug");
            String library = owner.getSimpleName() + "." + callee.getSimpleName();
            if (!isOwn && !LIBRARY.contains(library)) {
                fault(4, t, library + " is not among what the rule leaves of the library");
            }
            MethodTree in = method();
            if (isOwn && in != null) {
                TreePath path = trees.getPath(unit, in);
                calls.computeIfAbsent(nameOf(trees.getElement(path)), k -> new TreeSet<>()).add(nameOf(callee));
            }
        }

        @Override
        public Void visitThrow(ThrowTree t, Void v) {
            MethodTree in = method();
            if (in == null || in.getName().contentEquals("<init>")) {
                fault(6, t, "no throw in a constructor");
            }
            boolean isNew = t.getExpression() instanceof NewClassTree made && THROWN.contains(made.getIdentifier().toString());
            if (!isNew) {
                fault(6, t, "what is thrown is new, and among the seven");
            }
            return super.visitThrow(t, v);
        }

        @Override
        public Void visitCatch(CatchTree t, Void v) {
            if (!CAUGHT.contains(t.getParameter().getType().toString())) {
                fault(6, t, "what the machine throws is not caught");
            }
            return super.visitCatch(t, v);
        }

        @Override
        public Void visitTry(TryTree t, Void v) {
            if (t.getFinallyBlock() != null || !t.getResources().isEmpty()) {
                fault(6, t, "no finally, no try with resources");
            }
            return super.visitTry(t, v);
        }

        @Override
        public Void visitAssert(AssertTree t, Void v) {
            fault(6, t, "no assert");
            return super.visitAssert(t, v);
        }

        @Override
        public Void visitSynchronized(SynchronizedTree t, Void v) {
            fault(6, t, "no synchronized");
            return super.visitSynchronized(t, v);
        }

        @Override
        public Void visitLambdaExpression(LambdaExpressionTree t, Void v) {
            fault(2, t, "no lambda");
            return super.visitLambdaExpression(t, v);
        }

        @Override
        public Void visitMemberReference(MemberReferenceTree t, Void v) {
            fault(2, t, "no method reference");
            return super.visitMemberReference(t, v);
        }
    }

    /** How deep calls go, methods that call one another in a ring counting as one. */
    private static final class Depth {
        private final Map<String, Set<String>> calls;

        private Depth(Map<String, Set<String>> calls) {
            this.calls = calls;
        }

        private int of(String method) {
            Set<String> ring = ring(method);
            int deepest = 0;
            for (String one : ring) {
                for (String callee : calls.getOrDefault(one, Set.of())) {
                    if (!ring.contains(callee)) {
                        deepest = Math.max(deepest, of(callee));
                    }
                }
            }
            return 1 + deepest;
        }

        private Set<String> ring(String method) {
            Set<String> all = new HashSet<>(Set.of(method));
            for (String one : reached(method)) {
                if (reached(one).contains(method)) {
                    all.add(one);
                }
            }
            return all;
        }

        private Set<String> reached(String from) {
            Set<String> all = new HashSet<>();
            List<String> open = new ArrayList<>(List.of(from));
            while (!open.isEmpty()) {
                for (String callee : calls.getOrDefault(open.remove(open.size() - 1), Set.of())) {
                    if (all.add(callee)) {
                        open.add(callee);
                    }
                }
            }
            return all;
        }
    }
}
