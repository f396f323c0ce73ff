import com.sun.source.tree.BinaryTree;
import com.sun.source.tree.BlockTree;
import com.sun.source.tree.ClassTree;
import com.sun.source.tree.CompilationUnitTree;
import com.sun.source.tree.DoWhileLoopTree;
import com.sun.source.tree.EnhancedForLoopTree;
import com.sun.source.tree.ExpressionTree;
import com.sun.source.tree.ForLoopTree;
import com.sun.source.tree.MethodInvocationTree;
import com.sun.source.tree.MethodTree;
import com.sun.source.tree.NewArrayTree;
import com.sun.source.tree.NewClassTree;
import com.sun.source.tree.Tree;
import com.sun.source.tree.TypeCastTree;
import com.sun.source.tree.VariableTree;
import com.sun.source.tree.WhileLoopTree;
import com.sun.source.util.JavacTask;
import com.sun.source.util.SourcePositions;
import com.sun.source.util.TreePath;
import com.sun.source.util.TreePathScanner;
import com.sun.source.util.Trees;
import java.io.IOException;
import java.lang.reflect.Field;
import java.lang.reflect.Method;
import java.lang.reflect.Modifier;
import java.nio.file.Files;
import java.nio.file.Path;
import java.util.ArrayList;
import java.util.Arrays;
import java.util.HashMap;
import java.util.HashSet;
import java.util.List;
import java.util.Map;
import java.util.Set;
import java.util.TreeSet;
import javax.lang.model.element.Element;
import javax.lang.model.element.ExecutableElement;
import javax.lang.model.element.TypeElement;
import javax.lang.model.type.TypeMirror;
import javax.tools.JavaCompiler;
import javax.tools.StandardJavaFileManager;
import javax.tools.ToolProvider;

/** The rules of ../shared/LANGUAGE.md, as far as a program can tell: it reads the class as the compiler does. */
public final class LanguageTest {
    private static final Path SOURCE = Path.of("src/main/java/DrawnTalks.java");

    private static final List<String> FACE = List.of(
            "about(int,int):int", "alike(int,int):int", "behind(int,int,int):int", "clear():int", "count(int):int",
            "drawn(int,int,int):int", "event(int,int,int):int", "fresh(int,int):int", "kept(int,int,int,int):int",
            "line(int,int,int):int", "mixes(int,int):int", "moments(int):int", "orders(int):long", "play(int,int):int",
            "race(int,int,int):int", "take(int,int):int", "talk(int):int", "type(long,int):int", "under(int,int):int");
    private static final List<String> CONSTANTS = List.of("BAD", "FULL", "NONE", "STATE");

    /** Rules 2 and 6, and what else the class has no need of. */
    private static final Set<Tree.Kind> RULED_OUT = Set.of(
            Tree.Kind.THROW, Tree.Kind.TRY, Tree.Kind.CATCH, Tree.Kind.SYNCHRONIZED, Tree.Kind.ASSERT,
            Tree.Kind.LAMBDA_EXPRESSION, Tree.Kind.MEMBER_REFERENCE, Tree.Kind.INSTANCE_OF,
            Tree.Kind.IMPORT, Tree.Kind.PACKAGE, Tree.Kind.ANNOTATION, Tree.Kind.SWITCH_EXPRESSION, Tree.Kind.YIELD,
            Tree.Kind.FLOAT_LITERAL, Tree.Kind.DOUBLE_LITERAL, Tree.Kind.UNION_TYPE, Tree.Kind.INTERSECTION_TYPE);

    /** Rule 4: of what stands there, what the class uses. */
    private static final Set<String> LIBRARY = Set.of(
            "java.lang.String.length", "java.lang.String.charAt", "java.lang.Math.max", "java.lang.Math.min");

    /** Rule 3. */
    private static final Set<String> TYPES = Set.of(
            "int", "long", "boolean", "int[]", "long[]", "boolean[]", "java.lang.String");

    private static final int LONGEST_METHOD = 60;
    private static final int MOST_FIELDS = 20;
    private static final int MOST_CLASSES = 12;
    private static final int MOST_PARAMETERS = 7;
    private static final int DEEPEST = 8;

    private static int wrong = 0;

    private static void want(boolean holds, String what) {
        if (!holds) {
            wrong++;
            System.out.println(what);
        }
    }

    public static void main(String[] args) throws IOException {
        face();
        innerClasses();
        plainSigns();
        Reading reading = read();
        reading.callsEnd();
        System.out.println(wrong == 0 ? "the language is kept to" : wrong + " rules are broken");
        if (wrong != 0) {
            System.exit(1);
        }
    }

    // Rule 1
    private static void face() {
        Class<?> c = DrawnTalks.class;
        want(Modifier.isFinal(c.getModifiers()) && Modifier.isPublic(c.getModifiers()), "the class is not public final");
        want(c.getSuperclass() == Object.class && c.getInterfaces().length == 0, "the class is more than itself");
        want(c.getDeclaredConstructors().length == 1 && c.getConstructors().length == 1
                && c.getConstructors()[0].getParameterCount() == 0, "the constructors are others");
        Set<String> methods = new TreeSet<>();
        for (Method m : c.getDeclaredMethods()) {
            if (!Modifier.isPrivate(m.getModifiers())) {
                methods.add(m.getName() + "(" + String.join(",", Arrays.stream(m.getParameterTypes())
                        .map(Class::getName).toList()) + "):" + m.getReturnType().getName());
                want(Modifier.isPublic(m.getModifiers()) && !Modifier.isStatic(m.getModifiers()), "not as told: " + m);
            }
        }
        want(methods.equals(new TreeSet<>(FACE)), "the methods are others: " + methods);
        Set<String> constants = new TreeSet<>();
        for (Field f : c.getDeclaredFields()) {
            if (!Modifier.isPrivate(f.getModifiers())) {
                constants.add(f.getName());
                want(f.getType() == int.class && Modifier.isPublic(f.getModifiers()), "not as told: " + f);
            }
        }
        want(constants.equals(new TreeSet<>(CONSTANTS)), "the constants are others: " + constants);
        want(DrawnTalks.BAD == -1 && DrawnTalks.STATE == -2 && DrawnTalks.FULL == -3 && DrawnTalks.NONE == -9,
                "the constants' numbers are others");
    }

    private static void innerClasses() {
        Set<String> names = new HashSet<>();
        for (String method : FACE) {
            names.add(method.substring(0, method.indexOf('(')));
        }
        for (Method m : DrawnTalks.class.getDeclaredMethods()) {
            want(!Modifier.isPrivate(m.getModifiers()) || !names.contains(m.getName()), "private and public: " + m);
        }
        for (Class<?> inner : DrawnTalks.class.getDeclaredClasses()) {
            want(Modifier.isStatic(inner.getModifiers()) && !Modifier.isPublic(inner.getModifiers())
                    && !Modifier.isProtected(inner.getModifiers()), "not static, or too visible: " + inner);
            for (Method m : inner.getDeclaredMethods()) {
                want(!names.contains(m.getName()), "the name of a public method: " + m);
            }
        }
        want(DrawnTalks.class.getDeclaredClasses().length < MOST_CLASSES, "too many classes");
    }

    private static void plainSigns() throws IOException {
        String source = Files.readString(SOURCE);
        want(source.chars().allMatch(c -> c == '\n' || c >= 32 && c < 127), "a sign that is no plain one");
    }

    private static Reading read() throws IOException {
        JavaCompiler compiler = ToolProvider.getSystemJavaCompiler();
        try (StandardJavaFileManager files = compiler.getStandardFileManager(null, null, null)) {
            JavacTask task = (JavacTask) compiler.getTask(null, files, null, List.of("-proc:none"), null,
                    files.getJavaFileObjects(SOURCE));
            CompilationUnitTree unit = task.parse().iterator().next();
            task.analyze();
            Reading reading = new Reading(Trees.instance(task), unit);
            reading.scan(unit, null);
            return reading;
        }
    }

    /** Goes through the whole class once, looks at each rule where it applies, and notes who calls whom. */
    private static final class Reading extends TreePathScanner<Void, Void> {
        private final Trees trees;
        private final CompilationUnitTree unit;
        private final Map<String, Set<String>> calls = new HashMap<>();
        private String method = "";
        private boolean inConstructor = false;
        private int loops = 0;

        Reading(Trees trees, CompilationUnitTree unit) {
            this.trees = trees;
            this.unit = unit;
        }

        private String at(Tree t) {
            long start = trees.getSourcePositions().getStartPosition(unit, t);
            return " (row " + unit.getLineMap().getLineNumber(start) + ")";
        }

        private TypeMirror typeOf(Tree t) {
            return trees.getTypeMirror(new TreePath(getCurrentPath(), t));
        }

        @Override
        public Void scan(Tree t, Void v) {
            if (t != null) {
                want(!RULED_OUT.contains(t.getKind()), "ruled out: " + t.getKind() + at(t));
            }
            return super.scan(t, v);
        }

        @Override
        public Void visitClass(ClassTree c, Void v) {
            Tree above = getCurrentPath().getParentPath().getLeaf();
            want(above == unit || above instanceof ClassTree, "a local or anonymous class" + at(c));
            want(c.getExtendsClause() == null && c.getImplementsClause().isEmpty(), "extends or implements" + at(c));
            int fields = 0;
            for (Tree member : c.getMembers()) {
                want(!(member instanceof BlockTree), "an initialiser block" + at(member));
                if (member instanceof VariableTree f && !isStatic(f)) {
                    fields++;
                }
            }
            want(fields <= MOST_FIELDS, "too many fields" + at(c));
            return super.visitClass(c, v);
        }

        private static boolean isStatic(VariableTree f) {
            return f.getModifiers().getFlags().contains(javax.lang.model.element.Modifier.STATIC);
        }

        /** Rule 3, and of static fields rule 5. */
        @Override
        public Void visitVariable(VariableTree f, Void v) {
            String type = trees.getTypeMirror(getCurrentPath()).toString();
            String own = type.endsWith("[]") ? type.substring(0, type.length() - 2) : type;
            want(TYPES.contains(type) || own.startsWith("DrawnTalks."), "a type of its own kind: " + type + at(f));
            if (isStatic(f)) {
                javax.lang.model.element.VariableElement e =
                        (javax.lang.model.element.VariableElement) trees.getElement(getCurrentPath());
                want(e.getConstantValue() != null, "a static field that is no constant" + at(f));
            }
            return super.visitVariable(f, v);
        }

        @Override
        public Void visitMethod(MethodTree m, Void v) {
            ExecutableElement e = (ExecutableElement) trees.getElement(getCurrentPath());
            SourcePositions places = trees.getSourcePositions();
            long first = unit.getLineMap().getLineNumber(Math.max(0, places.getStartPosition(unit, m)));
            long last = unit.getLineMap().getLineNumber(Math.max(0, places.getEndPosition(unit, m)));
            want(last - first < LONGEST_METHOD, "too long: " + e + at(m));
            want(m.getParameters().size() <= MOST_PARAMETERS, "too many parameters: " + e + at(m));
            want(m.getThrows().isEmpty(), "throws: " + e + at(m));
            method = nameOf(e);
            inConstructor = m.getReturnType() == null;
            calls.put(method, new HashSet<>());
            super.visitMethod(m, v);
            method = "";
            inConstructor = false;
            return null;
        }

        private static String nameOf(ExecutableElement e) {
            return ((TypeElement) e.getEnclosingElement()).getQualifiedName() + "." + e;
        }

        /** Rule 4; all calls are noted for rules 8 and 11. */
        @Override
        public Void visitMethodInvocation(MethodInvocationTree call, Void v) {
            Element e = trees.getElement(getCurrentPath());
            String owner = ((TypeElement) e.getEnclosingElement()).getQualifiedName().toString();
            calls.get(method).add(nameOf((ExecutableElement) e));
            boolean isOwn = owner.equals("DrawnTalks") || owner.startsWith("DrawnTalks.");
            if (!isOwn && !e.getSimpleName().contentEquals("<init>")) {
                String name = owner + "." + e.getSimpleName();
                want(LIBRARY.contains(name), "not of the library that is told: " + name + at(call));
            }
            return super.visitMethodInvocation(call, v);
        }

        /** The one room of a run: constructors make all that there is, so that calls make nothing. */
        @Override
        public Void visitNewClass(NewClassTree made, Void v) {
            want(method.isEmpty() || inConstructor, "made by a call: " + made + at(made));
            want(made.getClassBody() == null, "an anonymous class" + at(made));
            return super.visitNewClass(made, v);
        }

        @Override
        public Void visitNewArray(NewArrayTree made, Void v) {
            want(method.isEmpty() || inConstructor, "made by a call: " + made + at(made));
            want(made.getDimensions().size() == 1, "not of one dimension: " + made + at(made));
            return super.visitNewArray(made, v);
        }

        @Override
        public Void visitTypeCast(TypeCastTree cast, Void v) {
            want(typeOf(cast.getExpression()).getKind().isPrimitive() && typeOf(cast.getType()).getKind().isPrimitive(),
                    "a cast of no number" + at(cast));
            return super.visitTypeCast(cast, v);
        }

        /** Rules 6 and 10, and rule 7 of divisors: there are none. */
        @Override
        public Void visitBinary(BinaryTree b, Void v) {
            Tree.Kind kind = b.getKind();
            want(kind != Tree.Kind.DIVIDE && kind != Tree.Kind.REMAINDER, "a divisor" + at(b));
            for (ExpressionTree side : List.of(b.getLeftOperand(), b.getRightOperand())) {
                want(typeOf(side).getKind().isPrimitive(), "no number or boolean: " + side + at(b));
            }
            return super.visitBinary(b, v);
        }

        @Override
        public Void visitForLoop(ForLoopTree loop, Void v) {
            want(loop.getCondition() != null && loop.getCondition().toString().matches(".*(<|<=|>|>=) .*")
                    && loop.getUpdate().size() == 1, "a loop whose end is not seen" + at(loop));
            loops++;
            return super.visitForLoop(loop, v);
        }

        @Override
        public Void visitWhileLoop(WhileLoopTree loop, Void v) {
            want(loop.getCondition().toString().matches("\\(at < length && .*"), "a loop whose end is not seen" + at(loop));
            loops++;
            return super.visitWhileLoop(loop, v);
        }

        @Override
        public Void visitDoWhileLoop(DoWhileLoopTree loop, Void v) {
            want(false, "a loop whose end is not seen" + at(loop));
            return super.visitDoWhileLoop(loop, v);
        }

        @Override
        public Void visitEnhancedForLoop(EnhancedForLoopTree loop, Void v) {
            loops++;
            return super.visitEnhancedForLoop(loop, v);
        }

        /** Rules 8 and 11: no method comes to itself again, and calls go eight deep at most. */
        void callsEnd() {
            want(loops > 0 && calls.size() > FACE.size(), "nothing was read");
            for (String first : calls.keySet()) {
                List<String> deepest = chain(first, new ArrayList<>());
                want(deepest.size() <= DEEPEST, "calls go too deep: " + deepest);
            }
        }

        private List<String> chain(String name, List<String> open) {
            List<String> best = List.of();
            if (open.contains(name)) {
                want(false, "comes to itself again: " + open + " " + name);
                return best;
            }
            open.add(name);
            for (String called : calls.getOrDefault(name, Set.of())) {
                List<String> below = chain(called, open);
                best = below.size() > best.size() ? below : best;
            }
            open.remove(open.size() - 1);
            List<String> all = new ArrayList<>(List.of(name));
            all.addAll(best);
            return all;
        }
    }
}
