import com.sun.source.tree.CompilationUnitTree;
import com.sun.source.tree.ExpressionTree;
import com.sun.source.tree.MemberSelectTree;
import com.sun.source.tree.MethodInvocationTree;
import com.sun.source.tree.MethodTree;
import com.sun.source.util.JavacTask;
import com.sun.source.util.TreePathScanner;
import com.sun.source.util.Trees;
import java.nio.file.Path;
import java.util.HashMap;
import java.util.HashSet;
import java.util.LinkedHashMap;
import java.util.List;
import java.util.Map;
import java.util.Set;
import javax.lang.model.element.Element;
import javax.lang.model.element.ExecutableElement;
import javax.lang.model.element.TypeElement;
import javax.lang.model.util.Elements;
import javax.tools.JavaCompiler;
import javax.tools.StandardJavaFileManager;
import javax.tools.ToolProvider;

/** LANGUAGE.md, rules 8 and 11: who calls whom in the class goes at most eight deep, and never round. */
final class CallsTest extends TreePathScanner<Void, Void> {
    private static final int MOST_DEEP = 8;
    private static final int ROUND = 1000;
    private static final Due due = new Due();

    private final Trees trees;
    private final Elements elements;
    private final Map<ExecutableElement, Set<ExecutableElement>> calls = new LinkedHashMap<>();
    /** Calls by which a class under the one that is told may answer. */
    private final Map<ExecutableElement, Set<ExecutableElement>> open = new HashMap<>();
    private ExecutableElement caller;

    private CallsTest(JavacTask task) {
        trees = Trees.instance(task);
        elements = task.getElements();
    }

    public static void main(String[] args) throws Exception {
        JavaCompiler compiler = ToolProvider.getSystemJavaCompiler();
        try (StandardJavaFileManager files = compiler.getStandardFileManager(null, null, null)) {
            JavacTask task = (JavacTask) compiler.getTask(null, files, null, List.of("-proc:none"), null,
                files.getJavaFileObjects(Path.of("src/main/java/NineInThePack.java")));
            Iterable<? extends CompilationUnitTree> units = task.parse();
            task.analyze();
            CallsTest test = new CallsTest(task);
            test.scan(units, null);
            test.lookAtAll();
        }
        due.end();
    }

    @Override
    public Void visitMethod(MethodTree method, Void none) {
        caller = (ExecutableElement) trees.getElement(getCurrentPath());
        calls.put(caller, new HashSet<>());
        open.put(caller, new HashSet<>());
        super.visitMethod(method, none);
        caller = null;
        return none;
    }

    @Override
    public Void visitMethodInvocation(MethodInvocationTree call, Void none) {
        Element called = trees.getElement(getCurrentPath());
        if (caller != null && called instanceof ExecutableElement method) {
            (isOfSuper(call.getMethodSelect()) ? calls : open).get(caller).add(method);
        }
        return super.visitMethodInvocation(call, none);
    }

    private static boolean isOfSuper(ExpressionTree method) {
        return method instanceof MemberSelectTree part && part.getExpression().toString().equals("super");
    }

    private boolean mayAnswer(ExecutableElement method, ExecutableElement called) {
        return method.equals(called) || elements.overrides(method, called, (TypeElement) method.getEnclosingElement());
    }

    private void lookAtAll() {
        for (ExecutableElement from : calls.keySet()) {
            for (ExecutableElement called : open.get(from)) {
                calls.keySet().stream().filter(method -> mayAnswer(method, called)).forEach(calls.get(from)::add);
            }
        }
        int deepest = 0;
        for (ExecutableElement method : calls.keySet()) {
            int deep = deepOf(method, new HashSet<>());
            due.is("calls of " + method + " go round", deep >= ROUND ? 1 : 0, 0);
            due.is("calls of " + method + ", " + deep + ", are few", deep <= MOST_DEEP ? 1 : 0, 1);
            deepest = Math.max(deepest, deep);
        }
        // Fewer would mean that the calls were not found.
        due.is("the deepest calls, " + deepest + ", were found", deepest > 3 ? 1 : 0, 1);
    }

    private int deepOf(ExecutableElement method, Set<ExecutableElement> above) {
        if (!calls.containsKey(method)) {
            return 0;
        }
        if (!above.add(method)) {
            return ROUND;
        }
        int deep = 0;
        for (ExecutableElement called : calls.get(method)) {
            deep = Math.max(deep, deepOf(called, above));
        }
        above.remove(method);
        return 1 + deep;
    }
}
