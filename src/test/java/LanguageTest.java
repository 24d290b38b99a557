import com.sun.source.tree.ClassTree;
import com.sun.source.tree.CompilationUnitTree;
import com.sun.source.tree.IdentifierTree;
import com.sun.source.tree.ImportTree;
import com.sun.source.tree.LambdaExpressionTree;
import com.sun.source.tree.MemberReferenceTree;
import com.sun.source.tree.MemberSelectTree;
import com.sun.source.tree.MethodInvocationTree;
import com.sun.source.tree.MethodTree;
import com.sun.source.tree.NewClassTree;
import com.sun.source.tree.Tree;
import com.sun.source.tree.VariableTree;
import com.sun.source.util.JavacTask;
import com.sun.source.util.TreePathScanner;
import com.sun.source.util.Trees;
import java.io.File;
import java.util.ArrayList;
import java.util.HashMap;
import java.util.HashSet;
import java.util.LinkedHashMap;
import java.util.List;
import java.util.Map;
import java.util.Set;
import java.util.TreeSet;
import javax.lang.model.element.Element;
import javax.lang.model.element.ElementKind;
import javax.lang.model.element.Modifier;
import javax.tools.JavaCompiler;
import javax.tools.StandardJavaFileManager;
import javax.tools.ToolProvider;

/** The rules of LANGUAGE.md that can be counted or looked up in the source. */
public final class LanguageTest {
    private static final Set<String> LIBRARY = Set.of("String.length", "String.charAt", "String.indexOf", "Math.max", "Math.min", "Math.abs",
            "Integer.bitCount", "Long.bitCount", "Long.numberOfTrailingZeros", "Long.lowestOneBit", "Arrays.fill", "System.arraycopy");
    private static final Set<Tree.Kind> FORBIDDEN = Set.of(Tree.Kind.THROW, Tree.Kind.TRY, Tree.Kind.CATCH, Tree.Kind.SYNCHRONIZED,
            Tree.Kind.ASSERT, Tree.Kind.LAMBDA_EXPRESSION, Tree.Kind.MEMBER_REFERENCE, Tree.Kind.SWITCH_EXPRESSION);
    private static final List<String> FACE = List.of("feed", "end", "quarter", "fault", "door", "lamp", "person", "shade", "shadow", "shades",
            "moves", "go", "hour", "shut", "out", "eclipse", "undo", "redo", "soonest", "reach", "meet", "barred", "longest", "cross", "rooms",
            "hears", "keep", "free", "surest", "dates", "lies", "look", "untell", "later", "fit", "places", "heights", "ask", "image", "back",
            "about");

    private static final Map<Element, Set<Element>> calls = new LinkedHashMap<>();
    private static int wrong;

    private static void rule(int number, boolean kept, String what) {
        if (!kept) {
            wrong++;
            System.out.println("rule " + number + ": " + what);
        }
    }

    private static final class Scanner extends TreePathScanner<Void, Void> {
        private final Trees trees;
        private final CompilationUnitTree unit;
        private Element method;
        private int classes;

        Scanner(Trees trees, CompilationUnitTree unit) {
            this.trees = trees;
            this.unit = unit;
        }

        @Override
        public Void scan(Tree tree, Void nothing) {
            if (tree != null) {
                rule(6, !FORBIDDEN.contains(tree.getKind()), tree.getKind() + ": " + tree);
            }
            return super.scan(tree, nothing);
        }

        @Override
        public Void visitImport(ImportTree tree, Void nothing) {
            rule(4, tree.getQualifiedIdentifier().toString().equals("java.util.Arrays"), "import of " + tree.getQualifiedIdentifier());
            return null;
        }

        @Override
        public Void visitClass(ClassTree tree, Void nothing) {
            classes++;
            Set<Modifier> flags = tree.getModifiers().getFlags();
            boolean outer = tree.getSimpleName().contentEquals("ShadowDoors");
            rule(1, flags.contains(Modifier.FINAL) && flags.contains(outer ? Modifier.PUBLIC : Modifier.STATIC), "class " + tree.getSimpleName());
            int fields = 0;
            for (Tree member : tree.getMembers()) {
                if (member instanceof VariableTree field) {
                    Set<Modifier> own = field.getModifiers().getFlags();
                    boolean fixed = own.contains(Modifier.STATIC);
                    fields += fixed ? 0 : 1;
                    rule(5, !fixed || own.contains(Modifier.FINAL), "static field " + field.getName());
                    rule(1, !outer || own.contains(Modifier.PRIVATE) || field.getName().contentEquals("NONE"), "field " + field.getName());
                }
            }
            rule(11, fields <= 20, tree.getSimpleName() + " has " + fields + " fields");
            return super.visitClass(tree, nothing);
        }

        @Override
        public Void visitMethod(MethodTree tree, Void nothing) {
            Element before = method;
            method = trees.getElement(getCurrentPath());
            calls.putIfAbsent(method, new HashSet<>());
            String name = tree.getName().toString();
            boolean isPublic = tree.getModifiers().getFlags().contains(Modifier.PUBLIC);
            boolean outer = method.getEnclosingElement().getSimpleName().contentEquals("ShadowDoors");
            boolean isPrivate = tree.getModifiers().getFlags().contains(Modifier.PRIVATE);
            if (method.getKind() == ElementKind.METHOD) {
                rule(1, isPublic == FACE.contains(name) && (!isPublic || outer), "method " + name);
                rule(1, !outer || isPublic || isPrivate, "method " + name);
            }
            rule(11, tree.getParameters().size() <= 7, name + " takes " + tree.getParameters().size());
            long start = trees.getSourcePositions().getStartPosition(unit, tree);
            long end = trees.getSourcePositions().getEndPosition(unit, tree);
            if (start >= 0 && end >= 0) {
                long lines = unit.getLineMap().getLineNumber(end) - unit.getLineMap().getLineNumber(start) + 1;
                rule(11, lines <= 60, name + " has " + lines + " lines");
            }
            super.visitMethod(tree, nothing);
            method = before;
            return null;
        }

        private void called(Element target) {
            if (target == null) {
                return;
            }
            String owner = target.getEnclosingElement().toString();
            if (!owner.startsWith("ShadowDoors") && !owner.equals("java.lang.Object")) {
                String call = target.getEnclosingElement().getSimpleName() + "." + target.getSimpleName();
                rule(4, LIBRARY.contains(call), "call of " + call);
            } else if (method != null) {
                calls.get(method).add(target);
            }
        }

        @Override
        public Void visitMethodInvocation(MethodInvocationTree tree, Void nothing) {
            Tree select = tree.getMethodSelect();
            if (select instanceof IdentifierTree || select instanceof MemberSelectTree) {
                called(trees.getElement(new com.sun.source.util.TreePath(getCurrentPath(), select)));
            }
            return super.visitMethodInvocation(tree, nothing);
        }

        @Override
        public Void visitNewClass(NewClassTree tree, Void nothing) {
            called(trees.getElement(getCurrentPath()));
            return super.visitNewClass(tree, nothing);
        }

        @Override
        public Void visitLambdaExpression(LambdaExpressionTree tree, Void nothing) {
            rule(2, false, "a lambda");
            return null;
        }

        @Override
        public Void visitMemberReference(MemberReferenceTree tree, Void nothing) {
            rule(2, false, "a method reference");
            return null;
        }
    }

    private static boolean reaches(Element from, Element to, Set<Element> seen) {
        for (Element next : calls.getOrDefault(from, Set.of())) {
            if (next.equals(to) || seen.add(next) && reaches(next, to, seen)) {
                return true;
            }
        }
        return false;
    }

    /** How deep calls go from a method on; calls within a recursion count once. */
    private static int depth(Element from, Map<Element, Integer> known) {
        Integer old = known.get(from);
        if (old != null) {
            return old;
        }
        known.put(from, 0);
        int deepest = 0;
        for (Element next : calls.getOrDefault(from, Set.of())) {
            boolean recursion = reaches(next, from, new HashSet<>());
            deepest = Math.max(deepest, recursion ? depth(next, known) - 1 : depth(next, known));
        }
        known.put(from, deepest + 1);
        return deepest + 1;
    }

    public static void main(String[] args) throws Exception {
        String source = System.getenv("SHADOW_DOORS_SOURCE");
        JavaCompiler compiler = ToolProvider.getSystemJavaCompiler();
        try (StandardJavaFileManager files = compiler.getStandardFileManager(null, null, null)) {
            JavacTask task = (JavacTask) compiler.getTask(null, files, null, List.of("-proc:none"), null,
                    files.getJavaFileObjects(new File(source == null ? "src/main/java/ShadowDoors.java" : source)));
            List<CompilationUnitTree> units = new ArrayList<>();
            task.parse().forEach(units::add);
            task.analyze();
            Scanner scanner = new Scanner(Trees.instance(task), units.get(0));
            scanner.scan(units.get(0), null);
            rule(11, scanner.classes <= 12, scanner.classes + " classes");
        }
        Set<String> recursive = new TreeSet<>();
        for (Element method : calls.keySet()) {
            int deep = depth(method, new HashMap<>());
            rule(11, deep <= 8, method + " calls " + deep + " deep");
            if (reaches(method, method, new HashSet<>())) {
                recursive.add(method.getSimpleName().toString());
            }
        }
        rule(8, recursive.equals(Set.of("readEither", "readBoth", "readOne", "readSum", "readTerm", "readUnit")), "recursion in " + recursive);
        rule(1, calls.keySet().stream().filter(m -> m.getModifiers().contains(Modifier.PUBLIC)).count() == FACE.size() + 1, "the face");
        System.out.println(wrong == 0 ? "the source keeps to the rules that are looked at" : wrong + " rules are broken");
        if (wrong != 0) {
            System.exit(1);
        }
    }
}
