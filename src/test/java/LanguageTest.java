import com.sun.source.tree.ArrayAccessTree;
import com.sun.source.tree.AssignmentTree;
import com.sun.source.tree.ClassTree;
import com.sun.source.tree.CompilationUnitTree;
import com.sun.source.tree.CompoundAssignmentTree;
import com.sun.source.tree.ExpressionTree;
import com.sun.source.tree.ImportTree;
import com.sun.source.tree.MethodInvocationTree;
import com.sun.source.tree.MethodTree;
import com.sun.source.tree.NewArrayTree;
import com.sun.source.tree.NewClassTree;
import com.sun.source.tree.Tree;
import com.sun.source.tree.UnaryTree;
import com.sun.source.tree.VariableTree;
import com.sun.source.util.JavacTask;
import com.sun.source.util.TreePathScanner;
import com.sun.source.util.Trees;
import java.io.IOException;
import java.lang.reflect.Constructor;
import java.lang.reflect.Field;
import java.lang.reflect.Method;
import java.lang.reflect.Modifier;
import java.nio.file.Files;
import java.nio.file.Path;
import java.util.ArrayList;
import java.util.HashMap;
import java.util.HashSet;
import java.util.LinkedHashSet;
import java.util.List;
import java.util.Map;
import java.util.Set;
import java.util.TreeSet;
import javax.lang.model.element.Element;
import javax.lang.model.element.ElementKind;
import javax.lang.model.element.ExecutableElement;
import javax.tools.JavaCompiler;
import javax.tools.StandardJavaFileManager;
import javax.tools.ToolProvider;

/** The rules of LANGUAGE.md, by their numbers, as far as they can be seen in the compiler's tree of the program. */
public final class LanguageTest {
    private static final int MOST_LINES = 60;
    private static final int MOST_PARAMETERS = 7;
    private static final int MOST_CLASSES = 12;
    private static final int MOST_FIELDS = 20;
    private static final int MOST_DEEP = 8;

    /** Of the library, what the program uses; all of it stands in rule 4. */
    private static final Set<String> LIBRARY = Set.of(
        "java.lang.Object.<init>", "java.lang.System.arraycopy", "java.util.Arrays.fill",
        "java.lang.Math.max", "java.lang.Math.min", "java.lang.Math.abs", "java.lang.Integer.numberOfLeadingZeros");

    /** What rules 2, 3 and 6 leave out, and the program does without. */
    private static final Set<Tree.Kind> NEVER = Set.of(
        Tree.Kind.LAMBDA_EXPRESSION, Tree.Kind.MEMBER_REFERENCE, Tree.Kind.THROW, Tree.Kind.TRY, Tree.Kind.CATCH,
        Tree.Kind.SYNCHRONIZED, Tree.Kind.ASSERT, Tree.Kind.DOUBLE_LITERAL, Tree.Kind.FLOAT_LITERAL,
        Tree.Kind.ANNOTATION, Tree.Kind.PACKAGE);

    public static void main(String[] args) throws IOException {
        face();
        String told = System.getenv("WAVE_SOURCE");
        Path source = Path.of(told == null ? "src/main/java/WavePictures.java" : told);
        Program program = new Program(Files.readString(source));
        JavaCompiler compiler = ToolProvider.getSystemJavaCompiler();
        try (StandardJavaFileManager files = compiler.getStandardFileManager(null, null, null)) {
            JavacTask task = (JavacTask) compiler.getTask(null, files, null, List.of("-proc:none"), null,
                files.getJavaFileObjects(source));
            Iterable<? extends CompilationUnitTree> units = task.parse();
            task.analyze();
            program.trees = Trees.instance(task);
            for (CompilationUnitTree unit : units) {
                program.scan(unit, null);
            }
        }
        program.sum();
        Check.end();
    }

    /** Rule 1, with the document's face word by word. */
    private static void face() {
        Set<String> due = new TreeSet<>(Set.of("boolean giveInput(long,int)", "void wipeInput()", "void takeOutput()",
            "int openInput()", "int saveAs(int,int)", "boolean paintFrom(int,int,int,int,int)",
            "boolean showAt(int,boolean)", "boolean turnBy(int)", "boolean cropTo(int,int,int,int)",
            "boolean setCoefficient(int,int,int,int,int)", "int coefficientAt(int,int,int,int)", "int stepAt(int,int)"));
        due.addAll(Set.of("boolean canvasSize(int,int,int)", "boolean canvasRow(int,int,int,long)",
            "long canvasEight(int,int,int)", "boolean mixCanvas(int)", "int outputAt(int)", "int aboutPicture(int)",
            "int statusOf(int)"));
        Set<String> found = new TreeSet<>();
        Set<String> names = new HashSet<>();
        for (Method m : WavePictures.class.getDeclaredMethods()) {
            if (!Modifier.isPrivate(m.getModifiers())) {
                Check.due("1: " + m + " is public and of an object", m.getModifiers(), Modifier.PUBLIC);
                found.add(m.getReturnType() + " " + m.getName() + "(" + types(m.getParameterTypes()) + ")");
                names.add(m.getName());
            }
        }
        Check.due("1: the methods are " + found, found.equals(due), true);
        Check.due("1: the class is public and final", WavePictures.class.getModifiers(), Modifier.PUBLIC | Modifier.FINAL);
        Constructor<?>[] constructors = WavePictures.class.getDeclaredConstructors();
        Check.due("1: constructors", constructors.length, 1);
        Check.due("1: it is public", constructors[0].getModifiers(), Modifier.PUBLIC);
        Check.due("1: it takes nothing", constructors[0].getParameterCount(), 0);
        for (Field f : WavePictures.class.getDeclaredFields()) {
            boolean constant = f.getName().equals("NONE");
            Check.due("1: " + f + " is private", Modifier.isPrivate(f.getModifiers()), !constant);
        }
        noneBearsAPublicName(WavePictures.class, names);
        for (Class<?> c : WavePictures.class.getDeclaredClasses()) {
            Check.due("2: " + c + " is static", Modifier.isStatic(c.getModifiers()), true);
            Check.due("1: " + c + " is not public", Modifier.isPublic(c.getModifiers()), false);
            noneBearsAPublicName(c, names);
        }
    }

    private static void noneBearsAPublicName(Class<?> c, Set<String> names) {
        for (Method m : c.getDeclaredMethods()) {
            boolean own = c == WavePictures.class && Modifier.isPublic(m.getModifiers());
            Check.due("1: " + m + " bears no public name", own || !names.contains(m.getName()), true);
        }
    }

    private static String types(Class<?>[] parameters) {
        List<String> names = new ArrayList<>();
        for (Class<?> p : parameters) {
            names.add(p.getName());
        }
        return String.join(",", names);
    }

    /** Goes over the tree of the source; what is wrong is told with the number of the rule. */
    private static final class Program extends TreePathScanner<Void, Void> {
        Trees trees;
        private final String text;
        private int classes = 0;
        private final Map<Element, Set<Element>> calls = new HashMap<>();
        private final Map<Element, Integer> depths = new HashMap<>();
        private final Set<Element> open = new LinkedHashSet<>();
        private Element method = null;
        private boolean making = false;

        Program(String text) {
            this.text = text;
        }

        void sum() {
            Check.due("11: " + classes + " classes", classes > 1 && classes <= MOST_CLASSES, true);
            int deepest = 0;
            for (Element one : calls.keySet()) {
                deepest = Math.max(deepest, depth(one));
            }
            Check.due("11: calls go " + deepest + " deep", deepest > 1 && deepest <= MOST_DEEP, true);
        }

        /** How many calls stand open at once below this one, it too; none may call itself (rule 8). */
        private int depth(Element one) {
            if (depths.containsKey(one)) {
                return depths.get(one);
            }
            boolean first = open.add(one);
            Check.due("8: " + one + " calls itself", first, true);
            int below = 0;
            for (Element next : first ? calls.getOrDefault(one, Set.of()) : Set.<Element>of()) {
                below = Math.max(below, depth(next));
            }
            open.remove(one);
            depths.put(one, below + 1);
            return below + 1;
        }

        private Element here() {
            return trees.getElement(getCurrentPath());
        }

        @Override
        public Void scan(Tree tree, Void nothing) {
            if (tree != null && NEVER.contains(tree.getKind())) {
                Check.due("2, 3, 6: " + tree.getKind() + " comes: " + tree, true, false);
            }
            return super.scan(tree, nothing);
        }

        @Override
        public Void visitImport(ImportTree tree, Void nothing) {
            Check.due("4: " + tree, tree.getQualifiedIdentifier().toString().equals("java.util.Arrays"), true);
            return super.visitImport(tree, nothing);
        }

        @Override
        public Void visitClass(ClassTree tree, Void nothing) {
            classes++;
            Element parent = here().getEnclosingElement();
            Check.due("2: " + tree.getSimpleName() + " stands in the class itself",
                parent.getKind() == ElementKind.PACKAGE || parent.getSimpleName().contentEquals("WavePictures"), true);
            int fields = 0;
            for (Tree member : tree.getMembers()) {
                Check.due("5: a block of initialising comes", member.getKind() == Tree.Kind.BLOCK, false);
                if (member instanceof VariableTree field) {
                    fields += isStatic(field) ? 0 : 1;
                }
            }
            Check.due("11: " + tree.getSimpleName() + " has " + fields + " fields", fields <= MOST_FIELDS, true);
            return super.visitClass(tree, nothing);
        }

        private static boolean isStatic(VariableTree tree) {
            return tree.getModifiers().getFlags().contains(javax.lang.model.element.Modifier.STATIC);
        }

        @Override
        public Void visitMethod(MethodTree tree, Void nothing) {
            Element outer = method;
            method = here();
            making = method.getKind() == ElementKind.CONSTRUCTOR;
            calls.computeIfAbsent(method, m -> new LinkedHashSet<>());
            Check.due("11: " + method + " has few parameters", tree.getParameters().size() <= MOST_PARAMETERS, true);
            Check.due("11: " + method + " is short", lines(tree) <= MOST_LINES, true);
            super.visitMethod(tree, nothing);
            method = outer;
            making = false;
            return null;
        }

        private long lines(Tree tree) {
            CompilationUnitTree unit = getCurrentPath().getCompilationUnit();
            int from = (int) trees.getSourcePositions().getStartPosition(unit, tree);
            int to = (int) trees.getSourcePositions().getEndPosition(unit, tree);
            // What the compiler makes by itself, a constructor without words, stands nowhere.
            return to < 0 ? 0 : text.substring(from, to).lines().count();
        }

        @Override
        public Void visitVariable(VariableTree tree, Void nothing) {
            String type = here().asType().toString().replace("WavePictures.", "");
            Check.due("3: " + tree + " is of type " + type, type.matches("(int|long|byte|boolean)(\\[\\])?"
                + "|(Bytes|Picture|Scan|Saver|ScanReader|ScanWriter|SegmentReader|Waves)|(Plane|Words|BestTable)(\\[\\])?"), true);
            if (here().getKind() == ElementKind.FIELD && isStatic(tree)) {
                Check.due("5: " + tree + " is final", here().getModifiers().contains(javax.lang.model.element.Modifier.FINAL), true);
                Check.due("5: " + tree + " is written out", isConstant(tree) || isWrittenOut(tree), true);
            }
            return super.visitVariable(tree, nothing);
        }

        private boolean isConstant(VariableTree tree) {
            return ((javax.lang.model.element.VariableElement) here()).getConstantValue() != null;
        }

        private static boolean isWrittenOut(VariableTree tree) {
            return tree.getInitializer() instanceof NewArrayTree array && array.getInitializers() != null;
        }

        @Override
        public Void visitMethodInvocation(MethodInvocationTree tree, Void nothing) {
            note(here(), tree);
            return super.visitMethodInvocation(tree, nothing);
        }

        @Override
        public Void visitNewClass(NewClassTree tree, Void nothing) {
            note(here(), tree);
            Check.due("2: " + tree + " has a body", tree.getClassBody() == null, true);
            // More than rule 12 asks: only constructors make objects, so that no call takes room.
            Check.due("12: " + tree + " outside a constructor", making || method == null, true);
            return super.visitNewClass(tree, nothing);
        }

        @Override
        public Void visitNewArray(NewArrayTree tree, Void nothing) {
            Check.due("12: " + tree + " outside a constructor", making || method == null, true);
            return super.visitNewArray(tree, nothing);
        }

        private void note(Element called, Tree tree) {
            String owner = called.getEnclosingElement().toString();
            if (owner.startsWith("WavePictures")) {
                if (method != null) {
                    calls.computeIfAbsent(method, m -> new LinkedHashSet<>()).add(called);
                }
                // A constructor calls nothing that could be overridden (rule 12): all classes are final.
                Check.due("12: " + owner + " is final",
                    called.getEnclosingElement().getModifiers().contains(javax.lang.model.element.Modifier.FINAL), true);
                return;
            }
            String name = owner + "." + called.getSimpleName();
            Check.due("4: " + tree, LIBRARY.contains(name), true);
            for (Element parameter : ((ExecutableElement) called).getParameters()) {
                Check.due("4: " + tree + " takes " + parameter.asType(),
                    parameter.asType().toString().matches("(double|float).*"), false);
            }
        }

        @Override
        public Void visitAssignment(AssignmentTree tree, Void nothing) {
            staysAsWritten(tree.getVariable());
            return super.visitAssignment(tree, nothing);
        }

        @Override
        public Void visitCompoundAssignment(CompoundAssignmentTree tree, Void nothing) {
            staysAsWritten(tree.getVariable());
            return super.visitCompoundAssignment(tree, nothing);
        }

        @Override
        public Void visitUnary(UnaryTree tree, Void nothing) {
            if (!tree.getKind().toString().matches("UNARY_.*|LOGICAL_COMPLEMENT|BITWISE_COMPLEMENT")) {
                staysAsWritten(tree.getExpression());
            }
            return super.visitUnary(tree, nothing);
        }

        /** Rule 5: an array of constants is never changed. */
        private void staysAsWritten(ExpressionTree target) {
            if (target instanceof ArrayAccessTree access) {
                String array = access.getExpression().toString();
                Check.due("5: " + target + " is changed", array.matches("[A-Z_]+"), false);
            }
        }
    }
}
