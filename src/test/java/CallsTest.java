import com.sun.source.tree.CompilationUnitTree;
import com.sun.source.tree.IdentifierTree;
import com.sun.source.tree.MemberSelectTree;
import com.sun.source.tree.MethodTree;
import com.sun.source.tree.NewClassTree;
import com.sun.source.util.JavacTask;
import com.sun.source.util.TreePathScanner;
import com.sun.source.util.Trees;
import java.io.IOException;
import java.nio.file.Path;
import java.util.ArrayList;
import java.util.LinkedHashMap;
import java.util.LinkedHashSet;
import java.util.List;
import java.util.Map;
import java.util.Set;
import java.util.TreeSet;
import javax.lang.model.element.Element;
import javax.lang.model.element.ElementKind;
import javax.lang.model.element.Modifier;
import javax.lang.model.element.TypeElement;
import javax.tools.JavaCompiler;
import javax.tools.StandardJavaFileManager;
import javax.tools.ToolProvider;

/** LANGUAGE.md on the library (rule 4) and on how deep calls go (rules 8, 11), as the compiler understands the source. */
public final class CallsTest {
    private static final Check C = new Check("CallsTest");
    private static final Path SOURCE = Path.of("src/main/java/LampWires.java");
    private static final int DEEPEST = 8;
    /** What rule 4 lists by name; of Integer, Long and Math it allows all static functions over int and long. */
    private static final Set<String> LISTED = Set.of(
        "String.length", "String.charAt", "String.isEmpty", "String.equals", "String.indexOf", "String.substring",
        "String.toCharArray", "System.arraycopy", "Arrays.copyOf", "Arrays.copyOfRange", "Arrays.fill");

    /** Each method of the class, with what it calls. */
    private final Map<Element, Set<Element>> calls = new LinkedHashMap<>();
    /** What the source takes of the library. */
    private final Set<Element> taken = new LinkedHashSet<>();

    /** Notes what is named in which method. */
    private final class Reader extends TreePathScanner<Void, Void> {
        private final Trees trees;
        private Element method;

        Reader(Trees trees) {
            this.trees = trees;
        }

        private void note() {
            Element it = trees.getElement(getCurrentPath());
            if (it == null) {
                return;
            }
            boolean called = it.getKind() == ElementKind.METHOD || it.getKind() == ElementKind.CONSTRUCTOR;
            if (called && method != null) {
                calls.get(method).add(it);
            }
            if ((called || it.getKind() == ElementKind.FIELD) && !isOwn(it)) {
                taken.add(it);
            }
        }

        @Override
        public Void visitMethod(MethodTree tree, Void nothing) {
            method = trees.getElement(getCurrentPath());
            calls.put(method, new LinkedHashSet<>());
            super.visitMethod(tree, nothing);
            method = null;
            return null;
        }

        @Override
        public Void visitIdentifier(IdentifierTree tree, Void nothing) {
            note();
            return super.visitIdentifier(tree, nothing);
        }

        @Override
        public Void visitMemberSelect(MemberSelectTree tree, Void nothing) {
            note();
            return super.visitMemberSelect(tree, nothing);
        }

        @Override
        public Void visitNewClass(NewClassTree tree, Void nothing) {
            note();
            return super.visitNewClass(tree, nothing);
        }
    }

    private static boolean isOwn(Element it) {
        Element top = it;
        while (top.getEnclosingElement() instanceof TypeElement outer) {
            top = outer;
        }
        return top.getSimpleName().contentEquals("LampWires");
    }

    private static String told(Element it) {
        return it.getEnclosingElement().getSimpleName() + "." + it.getSimpleName();
    }

    private static boolean mayBeTaken(Element it) {
        String name = told(it);
        // A row's length is a field of a class without a true name; each class begins with Object's own constructor.
        if (name.equals("Array.length") || name.equals("Object.<init>") || LISTED.contains(name)) {
            return true;
        }
        boolean counts = name.startsWith("Integer.") || name.startsWith("Long.") || name.startsWith("Math.");
        boolean function = it.getKind() == ElementKind.METHOD && it.getModifiers().contains(Modifier.STATIC);
        return counts && function && !name.endsWith("Exact");
    }

    private void read() throws IOException {
        JavaCompiler compiler = ToolProvider.getSystemJavaCompiler();
        try (StandardJavaFileManager files = compiler.getStandardFileManager(null, null, null)) {
            JavacTask task = (JavacTask) compiler.getTask(null, files, null, List.of("-proc:none"), null,
                files.getJavaFileObjects(SOURCE));
            List<CompilationUnitTree> units = new ArrayList<>();
            task.parse().forEach(units::add);
            task.analyze();
            for (CompilationUnitTree unit : units) {
                new Reader(Trees.instance(task)).scan(unit, null);
            }
        }
    }

    /** How many calls stand open at once from here on, each method once: what calls itself is counted once. */
    private int depth(Element method, List<Element> open) {
        int most = 0;
        open.add(method);
        for (Element called : calls.getOrDefault(method, Set.of())) {
            if (!open.contains(called)) {
                most = Math.max(most, depth(called, open));
            }
        }
        open.remove(open.size() - 1);
        return most + 1;
    }

    public static void main(String[] args) throws IOException {
        CallsTest it = new CallsTest();
        it.read();
        C.holds("the source was understood: " + it.calls.size() + " methods", it.calls.size() > 34);
        for (Element one : it.taken) {
            C.holds(told(one) + " is of the library's list", mayBeTaken(one));
        }
        Set<String> recursive = new TreeSet<>();
        for (Map.Entry<Element, Set<Element>> entry : it.calls.entrySet()) {
            int depth = it.depth(entry.getKey(), new ArrayList<>());
            C.holds(told(entry.getKey()) + " calls " + depth + " deep, " + DEEPEST + " at most", depth <= DEEPEST);
            if (entry.getValue().contains(entry.getKey())) {
                recursive.add(told(entry.getKey()));
            }
        }
        // Its depth is the number of turns that are left: 16 at most.
        C.holds("one method alone calls itself, not " + recursive, recursive.equals(Set.of("FrameFinder.reaches")));
        C.finish();
    }
}
