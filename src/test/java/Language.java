import com.sun.source.tree.AssignmentTree;
import com.sun.source.tree.BinaryTree;
import com.sun.source.tree.BlockTree;
import com.sun.source.tree.ClassTree;
import com.sun.source.tree.CompilationUnitTree;
import com.sun.source.tree.CompoundAssignmentTree;
import com.sun.source.tree.EnhancedForLoopTree;
import com.sun.source.tree.ExpressionTree;
import com.sun.source.tree.ForLoopTree;
import com.sun.source.tree.IdentifierTree;
import com.sun.source.tree.LiteralTree;
import com.sun.source.tree.MethodInvocationTree;
import com.sun.source.tree.MethodTree;
import com.sun.source.tree.NewArrayTree;
import com.sun.source.tree.NewClassTree;
import com.sun.source.tree.Tree;
import com.sun.source.tree.TypeCastTree;
import com.sun.source.tree.UnaryTree;
import com.sun.source.tree.VariableTree;
import com.sun.source.util.JavacTask;
import com.sun.source.util.TreePath;
import com.sun.source.util.TreePathScanner;
import com.sun.source.util.TreeScanner;
import com.sun.source.util.Trees;
import java.io.File;
import java.io.IOException;
import java.lang.reflect.Array;
import java.lang.reflect.Field;
import java.nio.file.Files;
import java.nio.file.Path;
import java.util.ArrayDeque;
import java.util.Collections;
import java.util.Deque;
import java.util.HashMap;
import java.util.HashSet;
import java.util.IdentityHashMap;
import java.util.List;
import java.util.Map;
import java.util.Set;
import java.util.TreeSet;
import javax.lang.model.element.Element;
import javax.lang.model.element.ElementKind;
import javax.lang.model.element.ExecutableElement;
import javax.lang.model.element.Modifier;
import javax.lang.model.element.TypeElement;
import javax.lang.model.element.VariableElement;
import javax.lang.model.type.ArrayType;
import javax.lang.model.type.DeclaredType;
import javax.lang.model.type.TypeKind;
import javax.lang.model.type.TypeMirror;
import javax.tools.JavaCompiler;
import javax.tools.StandardJavaFileManager;
import javax.tools.ToolProvider;

/**
 * GroveWorks.java keeps to ../shared/LANGUAGE.md: the compiler's own tree of it is looked through, rule by rule. Where
 * the class needs less than a rule grants (no floating point, no while, no recursion, no reference casts), less is granted.
 */
public final class Language {
    private static final String FILE = "src/main/java/GroveWorks.java";
    private static final Set<String> LIBRARY_TYPES = Set.of("java.lang.String", "java.lang.StringBuilder",
            "java.lang.Integer", "java.util.ArrayList", "java.util.List");
    private static final Map<String, Set<String>> LIBRARY = Map.of(
            "java.lang.String", Set.of("length", "charAt", "isEmpty", "equals", "indexOf", "substring", "toCharArray"),
            "java.lang.StringBuilder", Set.of("append", "charAt", "setCharAt", "setLength", "deleteCharAt", "reverse",
                    "length", "toString"),
            "java.util.ArrayList", Set.of("add", "get", "set", "remove", "size", "isEmpty", "clear"),
            "java.util.List", Set.of("add", "get", "set", "remove", "size", "isEmpty", "clear", "of"),
            "java.lang.System", Set.of("arraycopy"),
            "java.util.Arrays", Set.of("copyOf", "copyOfRange", "fill"));
    private static final Set<String> FUNCTIONS = Set.of("java.lang.Math", "java.lang.Integer", "java.lang.Long");
    private static final Map<Tree.Kind, String> FORBIDDEN = Map.of(
            Tree.Kind.LAMBDA_EXPRESSION, "2", Tree.Kind.MEMBER_REFERENCE, "2", Tree.Kind.THROW, "6", Tree.Kind.TRY, "6",
            Tree.Kind.SYNCHRONIZED, "6", Tree.Kind.ASSERT, "6", Tree.Kind.WHILE_LOOP, "9", Tree.Kind.DO_WHILE_LOOP, "9");
    private static final Set<String> MAKERS = Set.of("plug", "host", "makeRouter", "makeFrames");
    private static final int MOST_OBJECTS = 600_000;
    private static final int MOST_ELEMENTS = 7_300_000;

    private static int wrong = 0;

    private final Trees trees;
    private final CompilationUnitTree unit;
    private final Map<ExecutableElement, Set<ExecutableElement>> calls = new HashMap<>();
    private final Set<String> publicNames = new TreeSet<>();
    private int classes = 0;

    private Language(Trees trees, CompilationUnitTree unit) {
        this.trees = trees;
        this.unit = unit;
    }

    public static void main(String[] args) throws IOException {
        String file = args.length > 0 ? args[0] : FILE;
        JavaCompiler compiler = ToolProvider.getSystemJavaCompiler();
        if (compiler == null) {
            System.out.println("this java has no compiler, so the rules can't be looked at");
            System.exit(1);
        }
        StandardJavaFileManager files = compiler.getStandardFileManager(null, null, null);
        JavacTask task = (JavacTask) compiler.getTask(null, files, null, List.of("--release", "17", "-proc:none"), null,
                files.getJavaFileObjects(new File(file)));
        CompilationUnitTree unit = task.parse().iterator().next();
        task.analyze();
        new Language(Trees.instance(task), unit).look();
        fault(Files.readString(Path.of(file)).chars().anyMatch(c -> c > 255), "3", "a character above 255");
        room();
        System.out.println(wrong == 0 ? "Language: every rule is kept" : "Language: " + wrong + " faults");
        if (wrong != 0) {
            System.exit(1);
        }
    }

    private static void fault(boolean isFault, String rule, String what) {
        if (isFault) {
            wrong++;
            System.out.println("rule " + rule + ": " + what);
        }
    }

    private void faultAt(boolean isFault, String rule, String what, Tree tree) {
        if (isFault) {
            long at = trees.getSourcePositions().getStartPosition(unit, tree);
            fault(true, rule, what + " in line " + unit.getLineMap().getLineNumber(at));
        }
    }

    private void look() {
        fault(unit.getPackageName() != null, "1", "a package line");
        fault(unit.getTypeDecls().size() != 1, "1", "more than one class in the file");
        ClassTree main = (ClassTree) unit.getTypeDecls().get(0);
        Set<Modifier> flags = main.getModifiers().getFlags();
        fault(!flags.contains(Modifier.PUBLIC) || !flags.contains(Modifier.FINAL), "1", "not public and final");
        for (Tree member : main.getMembers()) {
            boolean isMethod = member instanceof MethodTree && ((MethodTree) member).getReturnType() != null;
            if (isMethod && ((MethodTree) member).getModifiers().getFlags().contains(Modifier.PUBLIC)) {
                publicNames.add(((MethodTree) member).getName().toString());
            }
        }
        new Looker().scan(unit, null);
        fault(classes > 12, "11", "more than twelve classes");
        Map<ExecutableElement, Integer> depths = new HashMap<>();
        for (ExecutableElement method : calls.keySet()) {
            int depth = depth(method, new HashSet<>(), depths);
            fault(depth > 8, "11", "calls go " + depth + " deep from " + method);
        }
    }

    /** How many calls stand open at most, that of the method itself among them. */
    private int depth(ExecutableElement method, Set<ExecutableElement> open, Map<ExecutableElement, Integer> known) {
        if (known.containsKey(method)) {
            return known.get(method);
        }
        if (!open.add(method)) {
            fault(true, "8", "a method that calls itself: " + method);
            return 0;
        }
        int deepest = 0;
        for (ExecutableElement called : calls.getOrDefault(method, Set.of())) {
            deepest = Math.max(deepest, depth(called, open, known));
        }
        open.remove(method);
        known.put(method, deepest + 1);
        return deepest + 1;
    }

    private static boolean isOwn(Element element) {
        Element at = element;
        while (at != null && at.getKind() != ElementKind.PACKAGE) {
            if (at instanceof TypeElement && ((TypeElement) at).getQualifiedName().contentEquals("GroveWorks")) {
                return true;
            }
            at = at.getEnclosingElement();
        }
        return false;
    }

    private final class Looker extends TreePathScanner<Void, Void> {
        private Element elementOf(Tree tree) {
            return trees.getElement(new TreePath(getCurrentPath(), tree));
        }

        private TypeMirror typeOf(Tree tree) {
            return trees.getTypeMirror(new TreePath(getCurrentPath(), tree));
        }

        private boolean isText(TypeMirror type) {
            return type != null && type.toString().equals("java.lang.String");
        }

        private boolean isBoxed(TypeMirror type) {
            return type != null && type.toString().equals("java.lang.Integer");
        }

        private void checkType(TypeMirror type, Tree tree) {
            TypeMirror inner = type;
            int dimensions = 0;
            while (inner instanceof ArrayType) {
                inner = ((ArrayType) inner).getComponentType();
                dimensions++;
            }
            boolean isFloating = inner.getKind() == TypeKind.DOUBLE || inner.getKind() == TypeKind.FLOAT;
            faultAt(isFloating, "3", "floating point", tree);
            faultAt(dimensions > 2 || (dimensions == 2 && !inner.getKind().isPrimitive()), "3", "an array of " + type, tree);
            if (inner.getKind() == TypeKind.DECLARED) {
                Element element = ((DeclaredType) inner).asElement();
                String name = element.toString();
                faultAt(!isOwn(element) && !LIBRARY_TYPES.contains(name), "3", "the type " + name, tree);
            }
        }

        @Override
        public Void scan(Tree tree, Void nothing) {
            if (tree != null && FORBIDDEN.containsKey(tree.getKind())) {
                faultAt(true, FORBIDDEN.get(tree.getKind()), tree.getKind().toString(), tree);
            }
            return super.scan(tree, nothing);
        }

        @Override
        public Void visitClass(ClassTree tree, Void nothing) {
            classes++;
            Tree parent = getCurrentPath().getParentPath().getLeaf();
            Set<Modifier> flags = tree.getModifiers().getFlags();
            if (!(parent instanceof CompilationUnitTree)) {
                faultAt(!(parent instanceof ClassTree), "2", "a class inside a method", tree);
                boolean isPlain = tree.getKind() == Tree.Kind.CLASS;
                faultAt(isPlain && !flags.contains(Modifier.STATIC), "2", "a class that is not static", tree);
                boolean isShown = flags.contains(Modifier.PUBLIC) || flags.contains(Modifier.PROTECTED);
                faultAt(isShown, "1", "a class inside that is public or protected", tree);
            }
            int fields = 0;
            for (Tree member : tree.getMembers()) {
                faultAt(member instanceof BlockTree && ((BlockTree) member).isStatic(), "5", "a static block", member);
                boolean isField = member instanceof VariableTree;
                boolean isStatic = isField && ((VariableTree) member).getModifiers().getFlags().contains(Modifier.STATIC);
                fields += isField && !isStatic ? 1 : 0;
            }
            faultAt(fields > 20, "11", fields + " fields", tree);
            return super.visitClass(tree, nothing);
        }

        @Override
        public Void visitVariable(VariableTree tree, Void nothing) {
            TypeMirror type = typeOf(tree);
            checkType(type, tree);
            Tree parent = getCurrentPath().getParentPath().getLeaf();
            Set<Modifier> flags = tree.getModifiers().getFlags();
            if (parent instanceof ClassTree && flags.contains(Modifier.STATIC)) {
                faultAt(!flags.contains(Modifier.FINAL), "5", "a static field that is not final", tree);
                boolean isConstant = Set.of("int", "long", "boolean", "char", "java.lang.String").contains(type.toString());
                faultAt(!isConstant, "5", "a static field of " + type, tree);
            }
            boolean isOfMain = parent instanceof ClassTree && ((ClassTree) parent).getSimpleName().contentEquals("GroveWorks");
            boolean isNone = tree.getName().contentEquals("NONE") && flags.contains(Modifier.PUBLIC);
            faultAt(isOfMain && !isNone && !flags.contains(Modifier.PRIVATE), "1", "a field that is seen", tree);
            return super.visitVariable(tree, nothing);
        }

        @Override
        public Void visitMethod(MethodTree tree, Void nothing) {
            String name = tree.getName().toString();
            Set<Modifier> flags = tree.getModifiers().getFlags();
            ClassTree owner = (ClassTree) getCurrentPath().getParentPath().getLeaf();
            boolean isOfMain = owner.getSimpleName().contentEquals("GroveWorks");
            boolean isPublic = flags.contains(Modifier.PUBLIC);
            faultAt(isOfMain && !isPublic && !flags.contains(Modifier.PRIVATE), "1", name + " is seen", tree);
            faultAt((!isOfMain || !isPublic) && publicNames.contains(name), "1", name + " bears a public name", tree);
            faultAt(!isOfMain && isPublic, "1", name + " of a class inside is public", tree);
            faultAt(Set.of("equals", "hashCode", "toString").contains(name), "6", name, tree);
            faultAt(flags.contains(Modifier.SYNCHRONIZED), "6", name + " is synchronized", tree);
            faultAt(!tree.getThrows().isEmpty(), "6", name + " throws", tree);
            faultAt(tree.getParameters().size() > 7, "11", name + " has more than seven parameters", tree);
            long start = unit.getLineMap().getLineNumber(trees.getSourcePositions().getStartPosition(unit, tree));
            long end = unit.getLineMap().getLineNumber(Math.max(0, trees.getSourcePositions().getEndPosition(unit, tree)));
            faultAt(end - start >= 60, "11", name + " is longer than sixty lines", tree);
            if (tree.getReturnType() != null) {
                checkType(((ExecutableElement) elementOf(tree)).getReturnType(), tree);
            }
            return super.visitMethod(tree, nothing);
        }

        private MethodTree around() {
            TreePath path = getCurrentPath();
            while (path != null && !(path.getLeaf() instanceof MethodTree)) {
                path = path.getParentPath();
            }
            return path == null ? null : (MethodTree) path.getLeaf();
        }

        private ExecutableElement elementAround() {
            TreePath path = getCurrentPath();
            while (path != null && !(path.getLeaf() instanceof MethodTree)) {
                path = path.getParentPath();
            }
            return path == null ? null : (ExecutableElement) trees.getElement(path);
        }

        private void noteCall(ExecutableElement called) {
            ExecutableElement by = elementAround();
            if (by != null) {
                calls.computeIfAbsent(by, key -> new HashSet<>()).add(called);
            }
        }

        @Override
        public Void visitMethodInvocation(MethodInvocationTree tree, Void nothing) {
            ExecutableElement called = (ExecutableElement) elementOf(tree);
            String owner = called.getEnclosingElement().toString();
            String name = called.getSimpleName().toString();
            if (isOwn(called)) {
                noteCall(called);
                MethodTree by = around();
                boolean isMaking = by != null && by.getReturnType() == null && !called.getModifiers().contains(Modifier.STATIC);
                boolean isItsOwn = isMaking && tree.getMethodSelect() instanceof IdentifierTree;
                faultAt(isItsOwn && !called.getModifiers().contains(Modifier.PRIVATE), "12", "a constructor calls " + name, tree);
            } else if (called.getKind() != ElementKind.CONSTRUCTOR) {
                boolean isNumbers = FUNCTIONS.contains(owner) && called.getModifiers().contains(Modifier.STATIC)
                        && !name.endsWith("Exact") && overNumbers(called);
                boolean isListed = LIBRARY.getOrDefault(owner, Set.of()).contains(name);
                faultAt(!isNumbers && !isListed, "4", owner + "." + name, tree);
            }
            return super.visitMethodInvocation(tree, nothing);
        }

        private boolean overNumbers(ExecutableElement called) {
            for (VariableElement parameter : called.getParameters()) {
                if (parameter.asType().getKind() != TypeKind.INT && parameter.asType().getKind() != TypeKind.LONG) {
                    return false;
                }
            }
            return called.getReturnType().getKind() == TypeKind.INT || called.getReturnType().getKind() == TypeKind.LONG;
        }

        @Override
        public Void visitNewClass(NewClassTree tree, Void nothing) {
            faultAt(tree.getClassBody() != null, "2", "a class without a name", tree);
            Element made = elementOf(tree);
            if (isOwn(made)) {
                noteCall((ExecutableElement) made);
            } else {
                faultAt(!LIBRARY_TYPES.contains(made.getEnclosingElement().toString()), "4", "new " + made, tree);
            }
            checkMaker(tree);
            return super.visitNewClass(tree, nothing);
        }

        @Override
        public Void visitNewArray(NewArrayTree tree, Void nothing) {
            checkMaker(tree);
            return super.visitNewArray(tree, nothing);
        }

        /** Objects are made with the object and as the net is put together, never by a tick. */
        private void checkMaker(Tree tree) {
            MethodTree by = around();
            boolean isMade = by == null || by.getReturnType() == null || MAKERS.contains(by.getName().toString());
            faultAt(!isMade, "12", "an object is made", tree);
        }

        @Override
        public Void visitIdentifier(IdentifierTree tree, Void nothing) {
            Tree parent = getCurrentPath().getParentPath().getLeaf();
            boolean isHandedOut = parent instanceof MethodInvocationTree || parent instanceof NewClassTree;
            faultAt(isHandedOut && tree.getName().contentEquals("this"), "12", "this is handed out", tree);
            return super.visitIdentifier(tree, nothing);
        }

        @Override
        public Void visitBinary(BinaryTree tree, Void nothing) {
            Tree.Kind kind = tree.getKind();
            TypeMirror left = typeOf(tree.getLeftOperand());
            TypeMirror right = typeOf(tree.getRightOperand());
            if (kind == Tree.Kind.DIVIDE || kind == Tree.Kind.REMAINDER) {
                checkDivisor(tree.getRightOperand());
            }
            faultAt(kind == Tree.Kind.PLUS && (isText(left) || isText(right)), "10", "texts are joined by +", tree);
            boolean isSame = kind == Tree.Kind.EQUAL_TO || kind == Tree.Kind.NOT_EQUAL_TO;
            boolean isOfTwo = (isText(left) && isText(right)) || (isBoxed(left) && isBoxed(right));
            faultAt(isSame && isOfTwo, "6", "== of two texts or Integers", tree);
            return super.visitBinary(tree, nothing);
        }

        @Override
        public Void visitCompoundAssignment(CompoundAssignmentTree tree, Void nothing) {
            Tree.Kind kind = tree.getKind();
            if (kind == Tree.Kind.DIVIDE_ASSIGNMENT || kind == Tree.Kind.REMAINDER_ASSIGNMENT) {
                checkDivisor(tree.getExpression());
            }
            faultAt(isText(typeOf(tree.getVariable())), "10", "texts are joined by +=", tree);
            return super.visitCompoundAssignment(tree, nothing);
        }

        private void checkDivisor(ExpressionTree divisor) {
            Object value = null;
            if (divisor instanceof LiteralTree) {
                value = ((LiteralTree) divisor).getValue();
            } else if (elementOf(divisor) instanceof VariableElement) {
                value = ((VariableElement) elementOf(divisor)).getConstantValue();
            }
            faultAt(!(value instanceof Integer) || (Integer) value == 0, "7", "a divisor that is no constant", divisor);
        }

        @Override
        public Void visitForLoop(ForLoopTree tree, Void nothing) {
            boolean hasCounter = tree.getInitializer().size() == 1 && tree.getInitializer().get(0) instanceof VariableTree
                    && tree.getUpdate().size() == 1 && tree.getCondition() != null;
            faultAt(!hasCounter, "9", "a loop without a counter", tree);
            if (hasCounter) {
                String counter = ((VariableTree) tree.getInitializer().get(0)).getName().toString();
                faultAt(!tree.getUpdate().get(0).toString().equals(counter + "++;"), "9", "a counter that does not count", tree);
                faultAt(!tree.getCondition().toString().startsWith(counter + " < "), "9", "a counter without a bound", tree);
                new Writes(counter).scan(tree.getStatement(), null);
            }
            return super.visitForLoop(tree, nothing);
        }

        /** A counter is written by its loop alone. */
        private final class Writes extends TreeScanner<Void, Void> {
            private final String counter;

            Writes(String counter) {
                this.counter = counter;
            }

            @Override
            public Void visitAssignment(AssignmentTree tree, Void nothing) {
                faultAt(tree.getVariable().toString().equals(counter), "9", "a counter is set", tree);
                return super.visitAssignment(tree, nothing);
            }

            @Override
            public Void visitCompoundAssignment(CompoundAssignmentTree tree, Void nothing) {
                faultAt(tree.getVariable().toString().equals(counter), "9", "a counter is set", tree);
                return super.visitCompoundAssignment(tree, nothing);
            }

            @Override
            public Void visitUnary(UnaryTree tree, Void nothing) {
                boolean isWritten = tree.getKind() != Tree.Kind.LOGICAL_COMPLEMENT && tree.getKind() != Tree.Kind.UNARY_MINUS
                        && tree.getKind() != Tree.Kind.BITWISE_COMPLEMENT && tree.getKind() != Tree.Kind.UNARY_PLUS;
                faultAt(isWritten && tree.getExpression().toString().equals(counter), "9", "a counter is set", tree);
                return super.visitUnary(tree, nothing);
            }
        }

        @Override
        public Void visitTypeCast(TypeCastTree tree, Void nothing) {
            faultAt(!typeOf(tree.getType()).getKind().isPrimitive(), "6", "a cast of an object", tree);
            return super.visitTypeCast(tree, nothing);
        }

        @Override
        public Void visitEnhancedForLoop(EnhancedForLoopTree tree, Void nothing) {
            faultAt(typeOf(tree.getExpression()).getKind() != TypeKind.ARRAY, "12", "for over a list", tree);
            return super.visitEnhancedForLoop(tree, nothing);
        }
    }

    /** The greatest net, with all that it can hold: it is all that a run ever makes. */
    private static void room() {
        GroveWorks x = new GroveWorks(10);
        for (int r = 0; r < 10; r++) {
            for (int p = 0; p < 4; p++) {
                x.plug(r, p, (r + 4 * p) % 16, 1);
            }
        }
        for (int h = 0; h < 16; h++) {
            x.host(h, h);
        }
        long[] before = measure(x);
        for (int h = 0; h < 16; h++) {
            for (int g = 0; g < 8; g++) {
                x.join(h, g);
                x.send(h, g);
            }
        }
        for (int i = 0; i < 100; i++) {
            x.tick(20);
            x.send(i % 16, i % 8);
        }
        long[] behind = measure(x);
        fault(behind[0] > MOST_OBJECTS / 10, "12", behind[0] + " objects");
        fault(behind[1] > MOST_ELEMENTS / 10, "12", behind[1] + " fields and elements");
        fault(before[0] != behind[0] || before[1] != behind[1], "12", "calls keep objects");
    }

    /** Objects and arrays, fields and elements that can be reached. */
    private static long[] measure(Object root) {
        Set<Object> seen = Collections.newSetFromMap(new IdentityHashMap<>());
        Deque<Object> open = new ArrayDeque<>();
        open.add(root);
        seen.add(root);
        long elements = 0;
        while (!open.isEmpty()) {
            Object one = open.remove();
            if (one.getClass().isArray()) {
                int length = Array.getLength(one);
                elements += length;
                for (int i = 0; i < length && !one.getClass().getComponentType().isPrimitive(); i++) {
                    reach(Array.get(one, i), seen, open);
                }
                continue;
            }
            for (Field field : one.getClass().getDeclaredFields()) {
                if (java.lang.reflect.Modifier.isStatic(field.getModifiers())) {
                    continue;
                }
                elements++;
                if (!field.getType().isPrimitive()) {
                    reach(valueOf(field, one), seen, open);
                }
            }
        }
        return new long[] {seen.size(), elements};
    }

    private static void reach(Object one, Set<Object> seen, Deque<Object> open) {
        if (one != null && seen.add(one)) {
            open.add(one);
        }
    }

    private static Object valueOf(Field field, Object owner) {
        try {
            field.setAccessible(true);
            return field.get(owner);
        } catch (IllegalAccessException e) {
            throw new IllegalStateException(e);
        }
    }
}
