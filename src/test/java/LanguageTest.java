import com.sun.source.tree.*;
import com.sun.source.util.JavacTask;
import com.sun.source.util.TreeScanner;
import java.io.File;
import java.io.IOException;
import java.lang.reflect.Field;
import java.lang.reflect.Method;
import java.lang.reflect.Modifier;
import java.nio.file.Files;
import java.nio.file.Path;
import java.util.*;
import java.util.regex.Matcher;
import java.util.regex.Pattern;
import javax.tools.JavaCompiler;
import javax.tools.StandardJavaFileManager;
import javax.tools.ToolProvider;

/** The public face of the document, and those rules of LANGUAGE.md that can be seen in the source. */
public final class LanguageTest {
    private static final Path DOCUMENT = Path.of("../shared/DOC.md");
    private static final Pattern METHOD = Pattern.compile("public (\\w+) (\\w+)\\((.*)\\);");
    private static final Pattern CONSTANT = Pattern.compile("([A-Z]+) = (-?\\d+)");
    private static final Set<String> FACE = new TreeSet<>();
    private static final Set<String> CONSTANTS = new TreeSet<>();
    private static final Set<String> TYPES = Set.of("int", "long", "short", "byte", "char", "boolean", "void");
    private static final Set<Tree.Kind> BANNED = EnumSet.of(Tree.Kind.THROW, Tree.Kind.TRY, Tree.Kind.SYNCHRONIZED,
        Tree.Kind.ASSERT, Tree.Kind.INSTANCE_OF, Tree.Kind.LAMBDA_EXPRESSION, Tree.Kind.MEMBER_REFERENCE,
        Tree.Kind.NEW_CLASS, Tree.Kind.STRING_LITERAL, Tree.Kind.NULL_LITERAL, Tree.Kind.IMPORT,
        Tree.Kind.FLOAT_LITERAL, Tree.Kind.DOUBLE_LITERAL, Tree.Kind.ENHANCED_FOR_LOOP);
    private static int failures = 0;

    private static void due(String rule, boolean kept) {
        if (!kept) {
            failures++;
            System.out.println("not kept: " + rule);
        }
    }

    /** The methods and constants of the section that has the public face, in the form in which face has them. */
    private static void readFace() throws IOException {
        String text = Files.readString(DOCUMENT);
        String section = text.split("## The public face", 2)[1].split("## Terms", 2)[0];
        Matcher method = METHOD.matcher(section);
        while (method.find()) {
            String types = method.group(3).replaceAll("(\\w+) \\w+", "$1").replace(" ", "");
            FACE.add(method.group(2) + "(" + types + ")" + method.group(1));
        }
        Matcher constant = CONSTANT.matcher(section);
        while (constant.find()) {
            CONSTANTS.add(constant.group(1) + "=" + constant.group(2));
        }
        due("the document has 17 methods", FACE.size() == 17);
        due("the document has 14 constants", CONSTANTS.size() == 14);
    }

    private static void face() throws ReflectiveOperationException {
        Set<String> open = new TreeSet<>();
        Set<String> names = new HashSet<>();
        Set<String> hidden = new HashSet<>();
        for (Method m : MapDesk.class.getDeclaredMethods()) {
            due("10: at most seven parameters: " + m.getName(), m.getParameterCount() <= 7);
            due("4: no array is answered by " + m.getName(), TYPES.contains(m.getReturnType().getName()));
            if (Modifier.isPublic(m.getModifiers())) {
                List<String> types = Arrays.stream(m.getParameterTypes()).map(Class::getName).toList();
                open.add(m.getName() + "(" + String.join(",", types) + ")" + m.getReturnType().getName());
                names.add(m.getName());
            } else {
                due("1: private: " + m.getName(), Modifier.isPrivate(m.getModifiers()));
                hidden.add(m.getName());
            }
        }
        due("1: the public methods: " + open, open.equals(FACE));
        due("1: no private method bears the name of a public one", Collections.disjoint(names, hidden));
        due("1: public and final", Modifier.isFinal(MapDesk.class.getModifiers()) && Modifier.isPublic(MapDesk.class.getModifiers()));
        due("1: one public constructor", MapDesk.class.getDeclaredConstructors().length == 1
            && MapDesk.class.getConstructors().length == 1 && MapDesk.class.getConstructors()[0].getParameterCount() == 0);
        fields();
    }

    private static void fields() throws ReflectiveOperationException {
        Set<String> constants = new TreeSet<>();
        int others = 0;
        for (Field f : MapDesk.class.getDeclaredFields()) {
            int how = f.getModifiers();
            Class<?> type = f.getType().isArray() ? f.getType().getComponentType() : f.getType();
            due("2: type of " + f.getName(), TYPES.contains(type.getName()));
            due("4: no method assigns to " + f.getName(), !f.getType().isArray() || Modifier.isFinal(how));
            if (Modifier.isStatic(how)) {
                due("5: constant " + f.getName(), Modifier.isFinal(how) && (f.getType() == int.class || f.getType() == long.class));
                if (Modifier.isPublic(how)) {
                    constants.add(f.getName() + "=" + f.getInt(null));
                }
            } else {
                others++;
            }
            due("1: private field " + f.getName(), Modifier.isPrivate(how) || Modifier.isPublic(how) && Modifier.isStatic(how));
        }
        due("1: the constants: " + constants, constants.equals(CONSTANTS));
        due("10: some forty fields: " + others, others <= 40);
    }

    /** Goes over the class once, and keeps which method calls which. */
    private static final class Rules extends TreeScanner<Void, Void> {
        final Map<String, Set<String>> calls = new TreeMap<>();
        final CompilationUnitTree unit;
        final com.sun.source.util.SourcePositions positions;
        String method = null;
        int argumentsDeep = 0;
        int classes = 0;

        Rules(CompilationUnitTree unit, com.sun.source.util.SourcePositions positions) {
            this.unit = unit;
            this.positions = positions;
        }

        @Override public Void scan(Tree tree, Void none) {
            if (tree != null) {
                due("6, 2, 3: no " + tree.getKind() + " in " + method, !BANNED.contains(tree.getKind()));
            }
            return super.scan(tree, none);
        }

        @Override public Void visitClass(ClassTree tree, Void none) {
            due("1: one class", ++classes == 1);
            return super.visitClass(tree, none);
        }

        @Override public Void visitMethod(MethodTree tree, Void none) {
            method = tree.getName().toString();
            due("1: one method of a name: " + method, calls.put(method, new TreeSet<>()) == null);
            long first = unit.getLineMap().getLineNumber(positions.getStartPosition(unit, tree));
            long last = unit.getLineMap().getLineNumber(positions.getEndPosition(unit, tree));
            due("10: short methods: " + method, last - first < 60);
            super.visitMethod(tree, none);
            method = null;
            return none;
        }

        @Override public Void visitMethodInvocation(MethodInvocationTree tree, Void none) {
            due("3: calls of its own methods only, in " + method, tree.getMethodSelect() instanceof IdentifierTree
                || "super".equals(tree.getMethodSelect().toString()));
            due("10: no call inside the arguments of another, in " + method, argumentsDeep == 0);
            if (method != null) {
                calls.get(method).add(tree.getMethodSelect().toString());
            }
            argumentsDeep++;
            scan(tree.getArguments(), none);
            argumentsDeep--;
            return none;
        }

        @Override public Void visitMemberSelect(MemberSelectTree tree, Void none) {
            due("3: nothing of the library, in " + method + ": " + tree, false);
            return super.visitMemberSelect(tree, none);
        }

        @Override public Void visitNewArray(NewArrayTree tree, Void none) {
            due("4: arrays are made in initialisers of fields", method == null && tree.getInitializers() == null
                && tree.getDimensions().size() == 1 && tree.getDimensions().get(0) instanceof IdentifierTree);
            return super.visitNewArray(tree, none);
        }

        @Override public Void visitTypeCast(TypeCastTree tree, Void none) {
            due("6: no cast of a reference, in " + method, tree.getType() instanceof PrimitiveTypeTree);
            return super.visitTypeCast(tree, none);
        }

        @Override public Void visitForLoop(ForLoopTree tree, Void none) {
            due("8: a loop has an end, in " + method, tree.getCondition() != null && tree.getUpdate().size() == 1);
            return super.visitForLoop(tree, none);
        }

        @Override public Void visitDoWhileLoop(DoWhileLoopTree tree, Void none) {
            due("8: a counter against a bound, in " + method, false);
            return super.visitDoWhileLoop(tree, none);
        }

        @Override public Void visitWhileLoop(WhileLoopTree tree, Void none) {
            due("8: a counter against a bound, in " + method, false);
            return super.visitWhileLoop(tree, none);
        }
    }

    private static int deep(Map<String, Set<String>> calls, String from, Deque<String> above) {
        due("8: no recursion: " + from, !above.contains(from));
        if (above.contains(from)) {
            return 0;
        }
        above.push(from);
        int most = 0;
        for (String to : calls.getOrDefault(from, Set.of())) {
            most = Math.max(most, deep(calls, to, above));
        }
        above.pop();
        return most + 1;
    }

    private static void source() throws IOException {
        JavaCompiler compiler = ToolProvider.getSystemJavaCompiler();
        try (StandardJavaFileManager files = compiler.getStandardFileManager(null, null, null)) {
            JavacTask task = (JavacTask) compiler.getTask(null, files, null, null, null,
                files.getJavaFileObjects(new File("src/main/java/MapDesk.java")));
            CompilationUnitTree unit = task.parse().iterator().next();
            due("no package", unit.getPackageName() == null);
            Rules rules = new Rules(unit, com.sun.source.util.Trees.instance(task).getSourcePositions());
            rules.scan(unit, null);
            for (String method : rules.calls.keySet()) {
                Set<String> others = new TreeSet<>(rules.calls.get(method));
                others.removeAll(rules.calls.keySet());
                others.remove("super");
                due("3: none of Object's methods is called: " + others, others.isEmpty());
                int deep = deep(rules.calls, method, new ArrayDeque<>());
                due("10: calls go at most six deep: " + method + " " + deep, deep <= 6);
            }
        }
    }

    public static void main(String[] args) throws Exception {
        readFace();
        face();
        source();
        System.out.println(failures + " rules are not kept");
        if (failures != 0) {
            System.exit(1);
        }
    }
}
