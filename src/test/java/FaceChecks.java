import com.sun.source.tree.AssertTree;
import com.sun.source.tree.BinaryTree;
import com.sun.source.tree.ClassTree;
import com.sun.source.tree.CompilationUnitTree;
import com.sun.source.tree.CompoundAssignmentTree;
import com.sun.source.tree.ImportTree;
import com.sun.source.tree.LambdaExpressionTree;
import com.sun.source.tree.MemberReferenceTree;
import com.sun.source.tree.MethodInvocationTree;
import com.sun.source.tree.MethodTree;
import com.sun.source.tree.SynchronizedTree;
import com.sun.source.tree.ThrowTree;
import com.sun.source.tree.Tree;
import com.sun.source.tree.TryTree;
import com.sun.source.tree.VariableTree;
import com.sun.source.util.JavacTask;
import com.sun.source.util.TreePath;
import com.sun.source.util.TreePathScanner;
import com.sun.source.util.Trees;
import java.io.File;
import java.lang.management.ManagementFactory;
import java.lang.reflect.Constructor;
import java.lang.reflect.Field;
import java.lang.reflect.InvocationTargetException;
import java.lang.reflect.Method;
import java.lang.reflect.Modifier;
import java.nio.file.Files;
import java.nio.file.Path;
import java.util.ArrayDeque;
import java.util.ArrayList;
import java.util.Arrays;
import java.util.Collections;
import java.util.Deque;
import java.util.HashMap;
import java.util.HashSet;
import java.util.IdentityHashMap;
import java.util.List;
import java.util.Map;
import java.util.Set;
import java.util.TreeSet;
import java.util.regex.Matcher;
import java.util.regex.Pattern;
import javax.lang.model.element.Element;
import javax.lang.model.element.ElementKind;
import javax.lang.model.type.TypeKind;
import javax.lang.model.type.TypeMirror;
import javax.tools.JavaCompiler;
import javax.tools.StandardJavaFileManager;
import javax.tools.ToolProvider;

/**
 * The public face, the rules of LANGUAGE.md that a compiler's tree shows, the room that
 * an object and its calls take, and calls with the wildest arguments, none of which may
 * throw. Run from the project's folder.
 */
public final class FaceChecks {
    private static final String SOURCE = "src/main/java/PaperForms.java";
    private static final String[] FACE = {
        "int add(int,int,int,int,int,int)", "int of(int,int)", "int change(int,int,int)", "int drop()",
        "int as(int,int)", "int enemy(int,int,boolean)", "int slope(int)", "long tells(int,int)",
        "long chance(int,int)", "int aim(int,int,int)", "long value(int)", "int worth(int)",
        "int peak(int,int,int)", "int topic(int,int,int)", "int rule(int,int)", "int told(int)",
        "int against(int)", "int papers()", "int without(int)", "int best()", "int rank(int)",
        "int swap(int,int)", "int forms(int)", "long gap()", "int use(int)", "int uses(int)",
        "int loose(int)", "int seed(int)", "int shelf(int,int)", "int lay(int,int,int)",
        "int stands(int,int,int)", "int moves(int,int)", "int sheet(int,int,int)", "int write(int,int,int)",
        "long item(int,int)", "int copy(int,int,int,int,int)", "int casts(int,int)",
        "int table(int,int,int,int)", "int rests(int,int)", "long sum(int)", "int image()", "int back()",
        "int count(int)", "int status(int)"};
    /** What the interface says ahead of which calls, in the document's order. */
    private static final String[][] SECTIONS = {
        {"items", "add", "of", "change", "drop", "as", "enemy"},
        {"what is told at an ability", "slope", "tells", "chance", "aim", "value", "worth", "peak"},
        {"the blueprint", "topic", "rule", "told"},
        {"papers", "against", "papers", "without", "best", "rank", "swap", "forms", "gap", "use", "uses", "loose",
            "seed"},
        {"shelves", "shelf", "lay", "stands", "moves"},
        {"sheets", "sheet", "write", "item", "copy", "casts", "table", "rests", "sum"},
        {"images, what is told", "image", "back", "count", "status"}};
    private static final Set<String> LIBRARY = Set.of("java.lang.Integer.bitCount", "java.lang.Math.min",
            "java.lang.Math.max", "java.lang.System.arraycopy", "java.lang.Object.<init>");

    private static final int MOST_DEEP = 8;

    private static int wrong = 0;

    public static void main(String[] args) throws Exception {
        checkFace();
        checkSections();
        checkLanguage();
        checkRoom();
        checkCallsMakeNothing();
        checkWildCalls();
        System.out.println(wrong == 0 ? "face, language and room are as due" : wrong + " faults");
        if (wrong != 0) {
            System.exit(1);
        }
    }

    private static void fault(String text) {
        wrong++;
        System.out.println(text);
    }

    private static void checkFace() {
        Set<String> wanted = new TreeSet<>(Arrays.asList(FACE));
        Set<String> found = new TreeSet<>();
        for (Method m : PaperForms.class.getDeclaredMethods()) {
            if (!Modifier.isPrivate(m.getModifiers())) {
                String types = Arrays.toString(m.getParameterTypes()).replace("[", "(").replace("]", ")").replace(" ", "");
                found.add(m.getReturnType() + " " + m.getName() + types);
                if (!Modifier.isPublic(m.getModifiers()) || Modifier.isStatic(m.getModifiers())) {
                    fault("not a public method of an object: " + m);
                }
            }
        }
        if (!found.equals(wanted)) {
            fault("the face is " + found + ", due is " + wanted);
        }
        Constructor<?>[] constructors = PaperForms.class.getDeclaredConstructors();
        if (constructors.length != 1 || constructors[0].getParameterCount() != 0
                || !Modifier.isPublic(constructors[0].getModifiers())) {
            fault("there is another constructor than PaperForms()");
        }
        for (Field f : PaperForms.class.getDeclaredFields()) {
            if (!Modifier.isPrivate(f.getModifiers())) {
                fault("a field that is not private: " + f);
            }
        }
        int modifiers = PaperForms.class.getModifiers();
        if (!Modifier.isPublic(modifiers) || !Modifier.isFinal(modifiers)) {
            fault("the class is not public and final");
        }
    }

    /** Each section's line stands ahead of its calls, and these in the face's order. */
    private static void checkSections() throws Exception {
        List<String> wanted = new ArrayList<>();
        for (String[] section : SECTIONS) {
            wanted.add("---- " + section[0]);
            wanted.addAll(Arrays.asList(section).subList(1, section.length));
        }
        List<String> found = new ArrayList<>();
        Pattern told = Pattern.compile("    // (---- .*)|    public (?:int|long) (\\w+)\\(.*");
        for (String line : Files.readAllLines(Path.of(SOURCE))) {
            Matcher m = told.matcher(line);
            if (m.matches()) {
                found.add(m.group(1) != null ? m.group(1) : m.group(2));
            }
        }
        if (found.size() < wanted.size() || !found.subList(0, wanted.size()).equals(wanted)) {
            fault("the sections and calls are " + found + ", due is " + wanted);
        }
    }

    private static void checkLanguage() throws Exception {
        JavaCompiler compiler = ToolProvider.getSystemJavaCompiler();
        StandardJavaFileManager files = compiler.getStandardFileManager(null, null, null);
        JavacTask task = (JavacTask) compiler.getTask(null, files, null, List.of("-proc:none"), null,
                files.getJavaFileObjects(new File(SOURCE)));
        CompilationUnitTree unit = task.parse().iterator().next();
        task.analyze();
        if (unit.getPackage() != null || unit.getTypeDecls().size() != 1) {
            fault("a package line, or more than one class in the file");
        }
        RuleScanner scanner = new RuleScanner(task, unit);
        scanner.scan(unit, null);
        if (scanner.classes > 12) {
            fault("more than twelve classes");
        }
        for (Element method : scanner.calls.keySet()) {
            int depth = scanner.depthOf(method, 0);
            if (depth > MOST_DEEP) {
                fault(method + " goes " + depth + " calls deep, or calls itself");
            }
        }
    }

    /** Reports what LANGUAGE.md leaves out, as far as this program could come near it. */
    private static final class RuleScanner extends TreePathScanner<Void, Void> {
        private final Trees trees;
        private final CompilationUnitTree unit;
        private final Set<String> publicNames = new TreeSet<>();
        /** Which methods (or constructors) each one calls. */
        final Map<Element, Set<Element>> calls = new HashMap<>();
        private Element caller;
        int classes;

        RuleScanner(JavacTask task, CompilationUnitTree unit) {
            trees = Trees.instance(task);
            this.unit = unit;
            for (String method : FACE) {
                publicNames.add(method.substring(method.indexOf(' ') + 1, method.indexOf('(')));
            }
        }

        private long line(Tree tree) {
            return unit.getLineMap().getLineNumber(trees.getSourcePositions().getStartPosition(unit, tree));
        }

        private long lastLine(Tree tree) {
            return unit.getLineMap().getLineNumber(trees.getSourcePositions().getEndPosition(unit, tree));
        }

        private void refuse(Tree tree, String why) {
            fault(SOURCE + ":" + line(tree) + ": " + why);
        }

        private boolean isFloating(Tree tree) {
            TypeMirror type = trees.getTypeMirror(new TreePath(getCurrentPath(), tree));
            return type.getKind() == TypeKind.DOUBLE || type.getKind() == TypeKind.FLOAT;
        }

        /** How many calls stand open at once, the method's own one among them. */
        int depthOf(Element method, int above) {
            int deepest = 0;
            if (above <= MOST_DEEP) {
                for (Element other : calls.getOrDefault(method, Set.of())) {
                    deepest = Math.max(deepest, depthOf(other, above + 1));
                }
            }
            return deepest + 1;
        }

        @Override public Void visitClass(ClassTree tree, Void p) {
            classes++;
            int fields = 0;
            for (Tree member : tree.getMembers()) {
                boolean isOwn = member instanceof VariableTree v
                        && !v.getModifiers().getFlags().contains(javax.lang.model.element.Modifier.STATIC);
                fields += isOwn ? 1 : 0;
            }
            if (fields > 20) {
                refuse(tree, "more than twenty fields");
            }
            return super.visitClass(tree, p);
        }

        @Override public Void visitMethod(MethodTree tree, Void p) {
            if (tree.getParameters().size() > 7) {
                refuse(tree, "more than seven parameters");
            }
            if (lastLine(tree) - line(tree) > 60) {
                refuse(tree, "a long method");
            }
            boolean isPublic = tree.getModifiers().getFlags().contains(javax.lang.model.element.Modifier.PUBLIC);
            if (!isPublic && publicNames.contains(tree.getName().toString())) {
                refuse(tree, "bears a public method's name");
            }
            caller = trees.getElement(getCurrentPath());
            return super.visitMethod(tree, p);
        }

        @Override public Void visitVariable(VariableTree tree, Void p) {
            Element element = trees.getElement(getCurrentPath());
            Set<javax.lang.model.element.Modifier> flags = tree.getModifiers().getFlags();
            if (element.getKind() == ElementKind.FIELD && flags.contains(javax.lang.model.element.Modifier.STATIC)) {
                String type = element.asType().toString();
                if (!flags.contains(javax.lang.model.element.Modifier.FINAL)
                        || !Set.of("int", "long", "int[]").contains(type)) {
                    refuse(tree, "a static field of " + type + ", or not final");
                }
            }
            return super.visitVariable(tree, p);
        }

        @Override public Void visitMethodInvocation(MethodInvocationTree tree, Void p) {
            Element method = trees.getElement(new TreePath(getCurrentPath(), tree.getMethodSelect()));
            String owner = method.getEnclosingElement().toString();
            String name = owner + "." + method.getSimpleName();
            if (!owner.startsWith("PaperForms") && !LIBRARY.contains(name)) {
                refuse(tree, "calls " + name);
            }
            if (caller != null) {
                calls.computeIfAbsent(caller, m -> new HashSet<>()).add(method);
            }
            return super.visitMethodInvocation(tree, p);
        }

        @Override public Void visitBinary(BinaryTree tree, Void p) {
            boolean isRest = tree.getKind() == Tree.Kind.REMAINDER;
            if (isRest && (isFloating(tree.getLeftOperand()) || isFloating(tree.getRightOperand()))) {
                refuse(tree, "% of floats or doubles");
            }
            return super.visitBinary(tree, p);
        }

        @Override public Void visitCompoundAssignment(CompoundAssignmentTree tree, Void p) {
            boolean isRest = tree.getKind() == Tree.Kind.REMAINDER_ASSIGNMENT;
            if (isRest && (isFloating(tree.getVariable()) || isFloating(tree.getExpression()))) {
                refuse(tree, "%= of floats or doubles");
            }
            return super.visitCompoundAssignment(tree, p);
        }

        @Override public Void visitImport(ImportTree tree, Void p) {
            refuse(tree, "an import");
            return super.visitImport(tree, p);
        }

        @Override public Void visitLambdaExpression(LambdaExpressionTree tree, Void p) {
            refuse(tree, "a lambda");
            return super.visitLambdaExpression(tree, p);
        }

        @Override public Void visitMemberReference(MemberReferenceTree tree, Void p) {
            refuse(tree, "a method reference");
            return super.visitMemberReference(tree, p);
        }

        @Override public Void visitTry(TryTree tree, Void p) {
            refuse(tree, "a try");
            return super.visitTry(tree, p);
        }

        @Override public Void visitThrow(ThrowTree tree, Void p) {
            refuse(tree, "a throw: the document asks for none");
            return super.visitThrow(tree, p);
        }

        @Override public Void visitSynchronized(SynchronizedTree tree, Void p) {
            refuse(tree, "synchronized");
            return super.visitSynchronized(tree, p);
        }

        @Override public Void visitAssert(AssertTree tree, Void p) {
            refuse(tree, "assert");
            return super.visitAssert(tree, p);
        }
    }

    /** Counts objects with their fields and elements from one object on. */
    private static void checkRoom() throws Exception {
        Set<Object> seen = Collections.newSetFromMap(new IdentityHashMap<>());
        Deque<Object> open = new ArrayDeque<>();
        open.add(new PaperForms());
        int elements = 0;
        while (!open.isEmpty()) {
            Object o = open.remove();
            if (!seen.add(o)) {
                continue;
            }
            if (o.getClass().isArray()) {
                elements += java.lang.reflect.Array.getLength(o);
                if (o instanceof Object[] parts) {
                    open.addAll(Arrays.asList(parts));
                }
                continue;
            }
            for (Field f : o.getClass().getDeclaredFields()) {
                if (!Modifier.isStatic(f.getModifiers())) {
                    elements++;
                    f.setAccessible(true);
                    if (!f.getType().isPrimitive() && f.get(o) != null) {
                        open.add(f.get(o));
                    }
                }
            }
        }
        if (seen.size() > 100 || elements > 3000) {
            fault("an object takes " + seen.size() + " objects, " + elements + " fields and elements");
        }
    }

    /** All calls of a run share one room: what is needed is made in the constructor. */
    private static void checkCallsMakeNothing() {
        PaperForms x = new PaperForms();
        callAll(x);
        var threads = (com.sun.management.ThreadMXBean) ManagementFactory.getThreadMXBean();
        threads.getCurrentThreadAllocatedBytes();
        long before = threads.getCurrentThreadAllocatedBytes();
        for (int i = 0; i < 9; i++) {
            callAll(x);
        }
        long made = threads.getCurrentThreadAllocatedBytes() - before;
        if (made > 1000) {
            fault("calls made objects of " + made + " bytes");
        }
    }

    private static long callAll(PaperForms x) {
        long all = x.add(1, 1, 5, 5, 5, -1) + x.add(2, 2, 6, 6, 6, -1) + x.add(3, 3, 6, 6, 6, -1);
        all += x.add(4, 0, 6, 6, 6, -1) + x.of(0, 0) + x.change(0, 3, 4) + x.as(0, 0) + x.enemy(0, 1, true);
        all += x.slope(0) + x.tells(0, 0) + x.chance(0, 0) + x.aim(0, 0, 5) + x.value(3) + x.worth(3);
        all += x.peak(3, -64, 64) + x.topic(0, 0, 5) + x.rule(0, 2) + x.told(0) + x.against(3) + x.papers();
        all += x.without(1) + x.best() + x.rank(3) + x.swap(5, 0) + x.forms(0) + x.gap() + x.use(5);
        all += x.uses(20) + x.loose(20) + x.seed(1) + x.shelf(0, 0) + x.lay(0, 0, 0) + x.stands(0, 0, 0);
        all += x.moves(0, 1) + x.sheet(0, 1, 40) + x.sheet(1, 1, 40) + x.write(0, 0, 9) + x.item(0, 0);
        all += x.copy(0, 0, 1, 0, 40) + x.casts(0, 1) + x.table(0, 0, 0, 1) + x.rests(0, 1) + x.sum(0);
        return all + x.image() + x.back() + x.count(5) + x.status(-1) + x.drop() + x.of(99, 0);
    }

    private static void checkWildCalls() throws Exception {
        int[] wild = {Integer.MIN_VALUE, Integer.MAX_VALUE, -1000001, -65, -33, -2, -1, 0, 1, 2, 3, 4, 5, 6, 7,
            11, 12, 13, 20, 21, 39, 40, 41, 64, 65, 800, 801, 4095, 4096, 1 << 30, 1 << 31};
        java.util.Random random = new java.util.Random(4);
        Method[] methods = Arrays.stream(PaperForms.class.getDeclaredMethods())
                .filter(m -> Modifier.isPublic(m.getModifiers()))
                .sorted((a, b) -> a.getName().compareTo(b.getName())).toArray(Method[]::new);
        for (int run = 0; run < 60 && wrong == 0; run++) {
            PaperForms x = new PaperForms();
            for (int i = 0; i < run % 13; i++) {
                x.add(i % 6, i % 4, 1 + i, 1 + i, i, i % 4 - 1);
            }
            for (int call = 0; call < 900; call++) {
                Method m = methods[random.nextInt(methods.length)];
                Object[] arguments = new Object[m.getParameterCount()];
                for (int i = 0; i < arguments.length; i++) {
                    boolean isTruth = m.getParameterTypes()[i] == boolean.class;
                    arguments[i] = isTruth ? (Object) random.nextBoolean() : (Object) wild[random.nextInt(wild.length)];
                }
                try {
                    m.invoke(x, arguments);
                } catch (InvocationTargetException e) {
                    fault(m.getName() + Arrays.toString(arguments) + " threw " + e.getCause());
                }
            }
        }
    }
}
