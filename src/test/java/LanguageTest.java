import com.sun.source.tree.AssertTree;
import com.sun.source.tree.BinaryTree;
import com.sun.source.tree.BlockTree;
import com.sun.source.tree.ClassTree;
import com.sun.source.tree.CompilationUnitTree;
import com.sun.source.tree.CompoundAssignmentTree;
import com.sun.source.tree.DoWhileLoopTree;
import com.sun.source.tree.ForLoopTree;
import com.sun.source.tree.ImportTree;
import com.sun.source.tree.LambdaExpressionTree;
import com.sun.source.tree.LiteralTree;
import com.sun.source.tree.MemberReferenceTree;
import com.sun.source.tree.MethodInvocationTree;
import com.sun.source.tree.MethodTree;
import com.sun.source.tree.NewArrayTree;
import com.sun.source.tree.NewClassTree;
import com.sun.source.tree.SynchronizedTree;
import com.sun.source.tree.ThrowTree;
import com.sun.source.tree.Tree;
import com.sun.source.tree.TryTree;
import com.sun.source.tree.TypeCastTree;
import com.sun.source.tree.VariableTree;
import com.sun.source.tree.WhileLoopTree;
import com.sun.source.util.JavacTask;
import com.sun.source.util.TreePath;
import com.sun.source.util.TreePathScanner;
import com.sun.source.util.Trees;
import java.lang.reflect.Field;
import java.lang.reflect.Method;
import java.nio.file.Path;
import java.util.HashMap;
import java.util.HashSet;
import java.util.List;
import java.util.Map;
import java.util.Set;
import java.util.TreeMap;
import java.util.TreeSet;
import javax.lang.model.element.Element;
import javax.lang.model.element.ElementKind;
import javax.lang.model.element.ExecutableElement;
import javax.lang.model.element.Modifier;
import javax.lang.model.element.TypeElement;
import javax.lang.model.type.ArrayType;
import javax.lang.model.type.DeclaredType;
import javax.lang.model.type.TypeKind;
import javax.lang.model.type.TypeMirror;
import javax.tools.JavaCompiler;
import javax.tools.StandardJavaFileManager;
import javax.tools.ToolProvider;

/** The rules of LANGUAGE.md by their numbers, held against the class as the compiler reads it, types and calls resolved. */
public final class LanguageTest {
    /** Rule 4, as far as methods go. */
    private static final Map<String, Set<String>> LIBRARY = Map.of(
            "java.lang.String", Set.of("length", "charAt", "isEmpty", "equals", "indexOf", "substring", "toCharArray"),
            "java.lang.StringBuilder", Set.of("append", "charAt", "setCharAt", "setLength", "deleteCharAt", "reverse",
                    "length", "toString"),
            "java.util.ArrayList", Set.of("add", "get", "set", "remove", "size", "isEmpty", "clear"),
            "java.util.List", Set.of("add", "get", "set", "remove", "size", "isEmpty", "clear", "of"),
            "java.util.Arrays", Set.of("copyOf", "copyOfRange", "fill"),
            "java.lang.System", Set.of("arraycopy"),
            "java.lang.Math", Set.of("max", "min", "abs", "floorDiv", "floorMod"),
            "java.lang.Integer", Set.of("compare", "max", "min", "bitCount"),
            "java.lang.Long", Set.of("compare", "max", "min", "bitCount"));
    private static final Set<String> TYPES = Set.of("java.lang.String", "java.lang.StringBuilder", "java.lang.Integer",
            "java.util.ArrayList", "java.util.List");
    /** The one method beside constructors that makes something: once for each object. */
    private static final Set<String> MAKERS = Set.of("Paths.solve");
    private static final int LINES_MOST = 60, DEPTH_MOST = 8, PARAMETERS_MOST = 7, CLASSES_MOST = 12, FIELDS_MOST = 20;

    /** The document's face: each call with how many numbers it takes, and the constants. */
    private static final String FACE = "answer/1 age/2 as/2 ask/2 back/0 block/2 blocks/0 bound/0 check/0 clear/0 copy/5 "
            + "count/1 edge/2 edges/0 factor/1 feed/3 fits/0 is/1 item/2 keep/0 lay/3 lock/2 locks/2 machine/0 mark/3 "
            + "may/2 memory/2 order/4 places/2 pour/4 proves/0 ran/1 record/0 run/1 shared/2 shares/1 sheet/3 shown/2 "
            + "step/2 tell/1 told/2 trim/1 turns/2 way/1 work/2";
    private static final String CONSTANTS = "BAD FULL INDEX KIND NO NONE NOTHING SIZE SPENT";

    private static int wrong = 0;

    private static void due(boolean right, int rule, String what) {
        if (!right) {
            wrong++;
            System.out.println("rule " + rule + ": " + what);
        }
    }

    public static void main(String[] args) throws Exception {
        Path source = Path.of(args.length > 0 ? args[0] : "src/main/java/TickBound.java");
        JavaCompiler compiler = ToolProvider.getSystemJavaCompiler();
        StandardJavaFileManager files = compiler.getStandardFileManager(null, null, null);
        JavacTask task = (JavacTask) compiler.getTask(null, files, null, List.of("-proc:none", "-Xlint:all"), null,
                files.getJavaFileObjects(source));
        CompilationUnitTree unit = task.parse().iterator().next();
        task.analyze();
        Reader reader = new Reader(Trees.instance(task), unit);
        reader.scan(unit, null);
        reader.wholeFile();
        reader.calls();
        face();
        System.out.println(wrong == 0 ? reader.summary() : wrong + " things are outside the language");
        if (wrong != 0) {
            System.exit(1);
        }
    }

    private static void face() {
        Set<String> calls = new TreeSet<>();
        for (Method m : TickBound.class.getMethods()) {
            if (m.getDeclaringClass() == TickBound.class) {
                calls.add(m.getName() + "/" + m.getParameterCount());
                due(m.getReturnType() == int.class && (m.getModifiers() & java.lang.reflect.Modifier.STATIC) == 0, 1,
                        m + " is another one");
            }
        }
        due(calls.equals(new TreeSet<>(List.of(FACE.split(" ")))), 1, "the face is " + calls);
        Set<String> constants = new TreeSet<>();
        for (Field f : TickBound.class.getFields()) {
            constants.add(f.getName());
            due(f.getType() == int.class && (f.getModifiers() & java.lang.reflect.Modifier.STATIC) != 0, 1,
                    f + " is another one");
        }
        due(constants.equals(new TreeSet<>(List.of(CONSTANTS.split(" ")))), 1, "the constants are " + constants);
        due(TickBound.class.getDeclaredConstructors().length == 1 && TickBound.class.getConstructors().length == 1
                && TickBound.class.getConstructors()[0].getParameterCount() == 0, 1, "other constructors");
    }

    private static final class Reader extends TreePathScanner<Void, Void> {
        private final Trees trees;
        private final CompilationUnitTree unit;
        private final Set<String> publicNames = new TreeSet<>();
        private final Map<String, Set<String>> called = new TreeMap<>();
        private final Map<String, Integer> depths = new HashMap<>();
        private final Set<String> open = new HashSet<>();
        private int classes = 0;
        private int methods = 0;
        private int deepest = 0;

        Reader(Trees itsTrees, CompilationUnitTree itsUnit) {
            trees = itsTrees;
            unit = itsUnit;
        }

        String summary() {
            return classes + " classes, " + methods + " methods, calls go " + deepest + " deep: the language is kept to";
        }

        // ---- where and what a tree is

        private String at(Tree tree) {
            long line = unit.getLineMap().getLineNumber(trees.getSourcePositions().getStartPosition(unit, tree));
            return "line " + line;
        }

        private Element elementOf(Tree tree) {
            return trees.getElement(new TreePath(getCurrentPath(), tree));
        }

        private TypeMirror typeOf(Tree tree) {
            return trees.getTypeMirror(new TreePath(getCurrentPath(), tree));
        }

        private static boolean isOwn(Element e) {
            for (Element up = e; up != null; up = up.getEnclosingElement()) {
                if (up.getSimpleName().contentEquals("TickBound")) {
                    return true;
                }
            }
            return false;
        }

        private static String nameOf(Element method) {
            return method.getEnclosingElement().getSimpleName() + "." + method.getSimpleName();
        }

        /** The method around the present tree; null in an initialiser of a field. */
        private ExecutableElement around() {
            for (TreePath p = getCurrentPath(); p != null; p = p.getParentPath()) {
                if (p.getLeaf() instanceof MethodTree) {
                    return (ExecutableElement) trees.getElement(p);
                }
            }
            return null;
        }

        private static boolean isNamed(TypeMirror type, String... names) {
            return type != null && type.getKind() == TypeKind.DECLARED && List.of(names).contains(
                    ((TypeElement) ((DeclaredType) type).asElement()).getQualifiedName().toString());
        }

        private static boolean isNumber(TypeMirror type) {
            return type.getKind().isPrimitive() && type.getKind() != TypeKind.BOOLEAN;
        }

        /** Rule 3. Doubles and floats are allowed there with care; the class has none. */
        private static boolean isAllowed(TypeMirror type, boolean inside) {
            switch (type.getKind()) {
                case INT: case LONG: case SHORT: case BYTE: case CHAR: case BOOLEAN: case VOID:
                    return true;
                case ARRAY:
                    TypeMirror of = ((ArrayType) type).getComponentType();
                    if (of.getKind() == TypeKind.ARRAY) {
                        return !inside && isNumber(((ArrayType) of).getComponentType());
                    }
                    return isAllowed(of, true);
                case DECLARED:
                    Element e = ((DeclaredType) type).asElement();
                    return isOwn(e) || TYPES.contains(((TypeElement) e).getQualifiedName().toString());
                default:
                    return false;
            }
        }

        // ---- rules 1, 2, 11: classes, members

        @Override
        public Void visitClass(ClassTree tree, Void v) {
            classes++;
            TypeElement c = (TypeElement) trees.getElement(getCurrentPath());
            boolean top = c.getEnclosingElement().getKind() == ElementKind.PACKAGE;
            Tree parent = getCurrentPath().getParentPath().getLeaf();
            due(parent instanceof ClassTree || parent instanceof CompilationUnitTree, 2, "a local class, " + at(tree));
            due(top ? c.getModifiers().contains(Modifier.PUBLIC) && c.getModifiers().contains(Modifier.FINAL)
                    : c.getModifiers().contains(Modifier.STATIC), 2, c + " has other modifiers");
            due(top || !c.getModifiers().contains(Modifier.PUBLIC) && !c.getModifiers().contains(Modifier.PROTECTED), 1,
                    c + " can be seen");
            int fields = 0;
            for (Element e : c.getEnclosedElements()) {
                if (top && e instanceof ExecutableElement && e.getModifiers().contains(Modifier.PUBLIC)) {
                    publicNames.add(e.getSimpleName().toString());
                }
                boolean constant = e.getModifiers().contains(Modifier.STATIC);
                fields += e.getKind() == ElementKind.FIELD && !constant ? 1 : 0;
                due(!top || e instanceof TypeElement || e.getModifiers().contains(Modifier.PUBLIC)
                        || e.getModifiers().contains(Modifier.PRIVATE), 1, e + " can be seen");
                due(e.getKind() != ElementKind.STATIC_INIT, 5, "a static block in " + c);
            }
            due(fields <= FIELDS_MOST, 11, c + " has " + fields + " fields");
            return super.visitClass(tree, v);
        }

        @Override
        public Void visitBlock(BlockTree tree, Void v) {
            due(!tree.isStatic(), 5, "a static block, " + at(tree));
            return super.visitBlock(tree, v);
        }

        @Override
        public Void visitMethod(MethodTree tree, Void v) {
            methods++;
            ExecutableElement m = (ExecutableElement) trees.getElement(getCurrentPath());
            called.computeIfAbsent(nameOf(m), k -> new TreeSet<>());
            boolean ofFace = nameOf(m).startsWith("TickBound.") && m.getModifiers().contains(Modifier.PUBLIC);
            due(ofFace || m.getKind() == ElementKind.CONSTRUCTOR || !publicNames.contains(m.getSimpleName().toString()), 1,
                    m + " bears a name of the face");
            due(tree.getParameters().size() <= PARAMETERS_MOST, 11, m + " has too many parameters");
            long first = unit.getLineMap().getLineNumber(trees.getSourcePositions().getStartPosition(unit, tree));
            long last = unit.getLineMap().getLineNumber(trees.getSourcePositions().getEndPosition(unit, tree));
            due(last - first < LINES_MOST, 11, m + " has " + (last - first + 1) + " lines");
            due(isAllowed(m.getReturnType(), false) || m.getKind() == ElementKind.CONSTRUCTOR, 3, m + " answers another type");
            due(!m.getModifiers().contains(Modifier.SYNCHRONIZED) && !m.getModifiers().contains(Modifier.NATIVE)
                    && m.getThrownTypes().isEmpty(), 6, m + " has another modifier, or throws");
            return super.visitMethod(tree, v);
        }

        @Override
        public Void visitVariable(VariableTree tree, Void v) {
            Element e = trees.getElement(getCurrentPath());
            due(isAllowed(e.asType(), false), 3, tree + " has another type");
            if (e.getModifiers().contains(Modifier.STATIC)) {
                due(e.getModifiers().contains(Modifier.FINAL), 5, tree + " is static, not final");
                Tree first = tree.getInitializer();
                boolean row = e.asType().getKind() == TypeKind.ARRAY && first instanceof NewArrayTree
                        && ((NewArrayTree) first).getInitializers() != null;
                boolean constant = ((javax.lang.model.element.VariableElement) e).getConstantValue() != null;
                due(row || constant, 5, tree + " is static, no constant");
            }
            return super.visitVariable(tree, v);
        }

        // ---- rules 2, 6, 9: what may not be there at all

        @Override
        public Void visitLambdaExpression(LambdaExpressionTree tree, Void v) {
            due(false, 2, "a lambda, " + at(tree));
            return super.visitLambdaExpression(tree, v);
        }

        @Override
        public Void visitMemberReference(MemberReferenceTree tree, Void v) {
            due(false, 2, "a method reference, " + at(tree));
            return super.visitMemberReference(tree, v);
        }

        @Override
        public Void visitThrow(ThrowTree tree, Void v) {
            due(false, 6, "throw, " + at(tree));
            return super.visitThrow(tree, v);
        }

        @Override
        public Void visitTry(TryTree tree, Void v) {
            due(false, 6, "try, " + at(tree));
            return super.visitTry(tree, v);
        }

        @Override
        public Void visitSynchronized(SynchronizedTree tree, Void v) {
            due(false, 6, "synchronized, " + at(tree));
            return super.visitSynchronized(tree, v);
        }

        @Override
        public Void visitAssert(AssertTree tree, Void v) {
            due(false, 6, "assert, " + at(tree));
            return super.visitAssert(tree, v);
        }

        @Override
        public Void visitForLoop(ForLoopTree tree, Void v) {
            due(tree.getCondition() != null && !tree.getCondition().toString().equals("true"), 9, "no end, " + at(tree));
            return super.visitForLoop(tree, v);
        }

        @Override
        public Void visitWhileLoop(WhileLoopTree tree, Void v) {
            due(!tree.getCondition().toString().equals("(true)"), 9, "no end, " + at(tree));
            return super.visitWhileLoop(tree, v);
        }

        @Override
        public Void visitDoWhileLoop(DoWhileLoopTree tree, Void v) {
            due(!tree.getCondition().toString().equals("(true)"), 9, "no end, " + at(tree));
            return super.visitDoWhileLoop(tree, v);
        }

        // ---- rules 3, 4, 6, 10: expressions

        @Override
        public Void visitBinary(BinaryTree tree, Void v) {
            TypeMirror left = typeOf(tree.getLeftOperand());
            TypeMirror right = typeOf(tree.getRightOperand());
            boolean texts = isNamed(left, "java.lang.String") || isNamed(right, "java.lang.String");
            due(tree.getKind() != Tree.Kind.PLUS || !texts, 10, "texts joined by +, " + at(tree));
            boolean same = tree.getKind() == Tree.Kind.EQUAL_TO || tree.getKind() == Tree.Kind.NOT_EQUAL_TO;
            due(!same || !isNamed(left, "java.lang.String", "java.lang.Integer")
                    || !isNamed(right, "java.lang.String", "java.lang.Integer"), 6, "== of texts, " + at(tree));
            return super.visitBinary(tree, v);
        }

        @Override
        public Void visitCompoundAssignment(CompoundAssignmentTree tree, Void v) {
            due(!isNamed(typeOf(tree.getVariable()), "java.lang.String"), 10, "texts joined by +=, " + at(tree));
            return super.visitCompoundAssignment(tree, v);
        }

        @Override
        public Void visitTypeCast(TypeCastTree tree, Void v) {
            due(typeOf(tree.getType()).getKind().isPrimitive(), 6, "a cast of an object, " + at(tree));
            return super.visitTypeCast(tree, v);
        }

        @Override
        public Void visitLiteral(LiteralTree tree, Void v) {
            String text = tree.getValue() instanceof String ? (String) tree.getValue() : "";
            due(text.chars().allMatch(c -> c >= 1 && c <= 127), 4, "a sign in a text, " + at(tree));
            due(!(tree.getValue() instanceof Double) && !(tree.getValue() instanceof Float), 3, "a double, " + at(tree));
            return super.visitLiteral(tree, v);
        }

        @Override
        public Void visitMethodInvocation(MethodInvocationTree tree, Void v) {
            ExecutableElement m = (ExecutableElement) elementOf(tree);
            ExecutableElement by = around();
            if (!m.getSimpleName().contentEquals("<init>")) {
                String owner = ((TypeElement) m.getEnclosingElement()).getQualifiedName().toString();
                due(isOwn(m) || LIBRARY.getOrDefault(owner, Set.of()).contains(m.getSimpleName().toString()), 4,
                        owner + "." + m.getSimpleName() + ", " + at(tree));
                if (isOwn(m)) {
                    due(by == null || by.getKind() != ElementKind.CONSTRUCTOR, 12, "a constructor calls " + m);
                    called.computeIfAbsent(by == null ? "a field" : nameOf(by), k -> new TreeSet<>()).add(nameOf(m));
                }
            }
            return super.visitMethodInvocation(tree, v);
        }

        // ---- rule 12: what is made

        @Override
        public Void visitNewClass(NewClassTree tree, Void v) {
            due(tree.getClassBody() == null, 2, "an anonymous class, " + at(tree));
            due(isAllowed(typeOf(tree), false), 4, "new " + tree.getIdentifier() + ", " + at(tree));
            made(tree);
            return super.visitNewClass(tree, v);
        }

        @Override
        public Void visitNewArray(NewArrayTree tree, Void v) {
            made(tree);
            return super.visitNewArray(tree, v);
        }

        private void made(Tree tree) {
            ExecutableElement by = around();
            due(by == null || by.getKind() == ElementKind.CONSTRUCTOR || MAKERS.contains(nameOf(by)), 12,
                    "made by a call, " + at(tree));
        }

        // ---- the whole

        void wholeFile() {
            due(unit.getPackage() == null, 1, "a package line");
            due(unit.getTypeDecls().size() == 1, 1, "more than one class");
            due(classes <= CLASSES_MOST, 11, classes + " classes");
            for (ImportTree i : unit.getImports()) {
                String name = i.getQualifiedIdentifier().toString();
                due(!i.isStatic() && (LIBRARY.containsKey(name) || TYPES.contains(name)), 4, "import " + name);
            }
        }

        /** Rules 8, 11: no method comes back to itself, and none stands deeper than it may. */
        void calls() {
            for (String name : called.keySet()) {
                deepest = Math.max(deepest, depthOf(name));
            }
            due(deepest <= DEPTH_MOST, 11, "calls go " + deepest + " deep");
        }

        private int depthOf(String name) {
            if (depths.containsKey(name)) {
                return depths.get(name);
            }
            due(open.add(name), 8, name + " calls itself");
            int depth = 0;
            for (String callee : called.getOrDefault(name, Set.of())) {
                depth = Math.max(depth, open.contains(callee) ? 0 : depthOf(callee));
                due(!open.contains(callee), 8, name + " comes back to " + callee);
            }
            open.remove(name);
            depths.put(name, depth + 1);
            return depth + 1;
        }
    }
}
