import com.sun.source.tree.*;
import com.sun.source.util.JavacTask;
import com.sun.source.util.TreePath;
import com.sun.source.util.TreePathScanner;
import com.sun.source.util.Trees;
import java.io.File;
import java.util.ArrayList;
import java.util.HashMap;
import java.util.HashSet;
import java.util.LinkedHashMap;
import java.util.LinkedHashSet;
import java.util.List;
import java.util.Map;
import java.util.Set;
import javax.lang.model.element.Element;
import javax.lang.model.element.ElementKind;
import javax.lang.model.element.ExecutableElement;
import javax.lang.model.element.Modifier;
import javax.lang.model.element.TypeElement;
import javax.tools.JavaCompiler;
import javax.tools.StandardJavaFileManager;
import javax.tools.ToolProvider;

/** Looks at src/main/java/TypeLock.java for what LANGUAGE.md rules out, as far as the compiler's tree shows it. */
public final class LanguageTest {
    private static final String[] FACE = ("feed back read place kind lay take thing at empty touch tight pushed borne "
            + "held holding drops round keeps key seeming joint longest order ordered gives shift bow judge breaks line "
            + "nearest gap log annul lack worst page lies tuesday hold again count").split(" ");
    private static final Set<String> LIBRARY = Set.of("java.lang.String.length", "java.lang.String.charAt",
            "java.lang.Math.min", "java.lang.Math.max", "java.lang.Long.bitCount", "java.lang.Integer.bitCount",
            "java.util.Arrays.fill", "java.lang.System.arraycopy");
    private static final Set<Tree.Kind> FORBIDDEN = Set.of(Tree.Kind.THROW, Tree.Kind.TRY, Tree.Kind.CATCH,
            Tree.Kind.ASSERT, Tree.Kind.SYNCHRONIZED, Tree.Kind.LAMBDA_EXPRESSION, Tree.Kind.MEMBER_REFERENCE,
            Tree.Kind.SWITCH_EXPRESSION);
    private static final int MOST_LINES = 60;
    private static final int MOST_PARAMETERS = 7;
    private static final int MOST_FIELDS = 20;
    private static final int MOST_CLASSES = 12;
    private static final int MOST_DEEP = 8;
    private static final int MOST_ROW = 140;

    private LanguageTest() {
    }

    public static void main(String[] args) throws Exception {
        File file = new File(args.length > 0 ? args[0] : ".", "src/main/java/TypeLock.java");
        JavaCompiler compiler = ToolProvider.getSystemJavaCompiler();
        try (StandardJavaFileManager files = compiler.getStandardFileManager(null, null, null)) {
            JavacTask task = (JavacTask) compiler.getTask(null, files, null, List.of("-proc:none"), null,
                    files.getJavaFileObjects(file));
            CompilationUnitTree unit = task.parse().iterator().next();
            task.analyze();
            Look look = new Look(unit, Trees.instance(task));
            look.scan(unit, null);
            look.end();
            for (String row : unit.getSourceFile().getCharContent(true).toString().split("\n")) {
                no("a row longer than " + MOST_ROW + ": " + row, row.length() > MOST_ROW);
                no("a tab or sign above 126: " + row, row.chars().anyMatch(c -> c < 32 || c > 126));
            }
        }
        Due.end("LanguageTest");
    }

    private static void no(String what, boolean found) {
        Due.due(what, found, false);
    }

    private static final class Look extends TreePathScanner<Void, Void> {
        private final CompilationUnitTree unit;
        private final Trees trees;
        private final Map<String, Set<String>> calls = new LinkedHashMap<>();
        private final Set<String> face = new HashSet<>();
        private int classes;

        Look(CompilationUnitTree unit, Trees trees) {
            this.unit = unit;
            this.trees = trees;
        }

        void end() {
            Due.due("classes at most " + MOST_CLASSES, classes <= MOST_CLASSES, true);
            Due.due("the face", face.equals(Set.of(FACE)), true);
            Map<String, Integer> known = new HashMap<>();
            for (String method : calls.keySet()) {
                int deep = deep(method, known, new ArrayList<>());
                Due.due(method + " calls " + deep + " deep", deep <= MOST_DEEP, true);
            }
        }

        private int deep(String method, Map<String, Integer> known, List<String> open) {
            no("recursion " + open + method, open.contains(method));
            if (known.containsKey(method) || open.contains(method)) {
                return known.getOrDefault(method, 99);
            }
            open.add(method);
            int most = 0;
            for (String called : calls.getOrDefault(method, Set.of())) {
                most = Math.max(most, deep(called, known, open));
            }
            open.remove(method);
            known.put(method, most + 1);
            return most + 1;
        }

        private String place(Tree tree) {
            long start = trees.getSourcePositions().getStartPosition(unit, tree);
            return "row " + unit.getLineMap().getLineNumber(start) + ": ";
        }

        @Override
        public Void scan(Tree tree, Void nothing) {
            if (tree != null) {
                no(place(tree) + tree.getKind(), FORBIDDEN.contains(tree.getKind()));
            }
            return super.scan(tree, nothing);
        }

        @Override
        public Void visitClass(ClassTree tree, Void nothing) {
            classes++;
            boolean isOuter = getCurrentPath().getParentPath().getLeaf() instanceof CompilationUnitTree;
            Set<Modifier> flags = tree.getModifiers().getFlags();
            no(place(tree) + "a class inside is private and static",
                    !isOuter && !flags.containsAll(Set.of(Modifier.PRIVATE, Modifier.STATIC, Modifier.FINAL)));
            int fields = 0;
            for (Tree member : tree.getMembers()) {
                if (member instanceof VariableTree field) {
                    Set<Modifier> its = field.getModifiers().getFlags();
                    fields += its.contains(Modifier.STATIC) ? 0 : 1;
                    no(place(field) + "a static field is final",
                            its.contains(Modifier.STATIC) && !its.contains(Modifier.FINAL));
                    no(place(field) + "a member of the outer class is private", isOuter
                            && !its.contains(Modifier.PRIVATE) && !field.getName().contentEquals("NONE"));
                }
                no(place(member) + "an initialiser", member instanceof BlockTree);
            }
            no(place(tree) + "more than " + MOST_FIELDS + " fields: " + fields, fields > MOST_FIELDS);
            return super.visitClass(tree, nothing);
        }

        @Override
        public Void visitMethod(MethodTree tree, Void nothing) {
            String name = tree.getName().toString();
            boolean isOuter = ((ClassTree) getCurrentPath().getParentPath().getLeaf()).getSimpleName()
                    .contentEquals("TypeLock");
            Set<Modifier> flags = tree.getModifiers().getFlags();
            boolean isPublic = flags.contains(Modifier.PUBLIC);
            if (isOuter && isPublic && !name.equals("<init>")) {
                face.add(name);
            }
            no(place(tree) + "a method of the outer class is public or private",
                    isOuter && !isPublic && !flags.contains(Modifier.PRIVATE));
            no(place(tree) + name + " bears a public one's name", !(isOuter && isPublic) && List.of(FACE).contains(name));
            no(place(tree) + "more than " + MOST_PARAMETERS + " parameters",
                    tree.getParameters().size() > MOST_PARAMETERS);
            long from = trees.getSourcePositions().getStartPosition(unit, tree);
            long to = trees.getSourcePositions().getEndPosition(unit, tree);
            if (from >= 0 && to >= 0) {
                long rows = unit.getLineMap().getLineNumber(to) - unit.getLineMap().getLineNumber(from) + 1;
                no(place(tree) + name + " has " + rows + " rows", rows > MOST_LINES);
            }
            return super.visitMethod(tree, nothing);
        }

        @Override
        public Void visitMethodInvocation(MethodInvocationTree tree, Void nothing) {
            Element called = trees.getElement(getCurrentPath());
            String owner = ((TypeElement) called.getEnclosingElement()).getQualifiedName().toString();
            if (!owner.startsWith("TypeLock") && !called.getSimpleName().contentEquals("<init>")) {
                String name = owner + "." + called.getSimpleName();
                no(place(tree) + "library: " + name, !LIBRARY.contains(name));
            }
            if (owner.startsWith("TypeLock")) {
                calls.computeIfAbsent(within(), key -> new LinkedHashSet<>()).add(sign(called));
            }
            return super.visitMethodInvocation(tree, nothing);
        }

        /** The method around here; a field's initialiser counts to its class. */
        private String within() {
            for (TreePath path = getCurrentPath(); path != null; path = path.getParentPath()) {
                if (path.getLeaf() instanceof MethodTree) {
                    return sign(trees.getElement(path));
                }
            }
            return "initialiser";
        }

        private static String sign(Element method) {
            return ((TypeElement) method.getEnclosingElement()).getSimpleName() + "." + method.getSimpleName()
                    + (method instanceof ExecutableElement its ? its.getParameters() : "");
        }

        @Override
        public Void visitNewClass(NewClassTree tree, Void nothing) {
            no(place(tree) + "an anonymous class", tree.getClassBody() != null);
            dueMadeOnce(tree);
            return super.visitNewClass(tree, nothing);
        }

        @Override
        public Void visitNewArray(NewArrayTree tree, Void nothing) {
            dueMadeOnce(tree);
            return super.visitNewArray(tree, nothing);
        }

        /** The class makes all its rows with the object: what a run makes is counted. */
        private void dueMadeOnce(Tree tree) {
            for (TreePath path = getCurrentPath(); path != null; path = path.getParentPath()) {
                if (path.getLeaf() instanceof MethodTree) {
                    no(place(tree) + "made by a call",
                            trees.getElement(path).getKind() != ElementKind.CONSTRUCTOR);
                }
            }
        }

        @Override
        public Void visitBinary(BinaryTree tree, Void nothing) {
            String type = String.valueOf(trees.getTypeMirror(getCurrentPath()));
            no(place(tree) + "texts joined by +", type.equals("java.lang.String"));
            return super.visitBinary(tree, nothing);
        }

        @Override
        public Void visitCompoundAssignment(CompoundAssignmentTree tree, Void nothing) {
            String type = String.valueOf(trees.getTypeMirror(getCurrentPath()));
            no(place(tree) + "texts joined by +=", type.equals("java.lang.String"));
            return super.visitCompoundAssignment(tree, nothing);
        }

        @Override
        public Void visitPrimitiveType(PrimitiveTypeTree tree, Void nothing) {
            String type = tree.toString();
            no(place(tree) + type, type.equals("float") || type.equals("double"));
            return super.visitPrimitiveType(tree, nothing);
        }
    }
}
