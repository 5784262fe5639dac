import com.sun.source.tree.ClassTree;
import com.sun.source.tree.CompilationUnitTree;
import com.sun.source.tree.MethodInvocationTree;
import com.sun.source.tree.MethodTree;
import com.sun.source.tree.NewArrayTree;
import com.sun.source.tree.NewClassTree;
import com.sun.source.tree.Tree;
import com.sun.source.util.JavacTask;
import com.sun.source.util.TreePath;
import com.sun.source.util.TreePathScanner;
import com.sun.source.util.Trees;
import java.io.IOException;
import java.nio.file.Path;
import java.util.ArrayDeque;
import java.util.Deque;
import java.util.HashMap;
import java.util.HashSet;
import java.util.Map;
import java.util.Set;
import java.util.TreeSet;
import javax.lang.model.element.Element;
import javax.lang.model.element.Modifier;
import javax.tools.JavaCompiler;
import javax.tools.StandardJavaFileManager;
import javax.tools.ToolProvider;

/** Which method calls which: LANGUAGE.md's rules 4, 8, 11 and 12, as the compiler reads the program. */
public final class CallsTest extends TreePathScanner<Void, Void> {
  private static final int MOST_DEEP = 8;
  // Object's constructor: each class's own calls it.
  private static final Set<String> LIBRARY =
      Set.of("Object.<init>", "Math.max", "Math.min", "Integer.bitCount", "Long.bitCount");

  private final Trees trees;
  private final Check check;
  /** The program's own methods that each of its methods calls, and those that may call themselves. */
  private final Map<Element, Set<Element>> calls = new HashMap<>();
  private final Set<String> recursive = new TreeSet<>();
  private final Map<Element, Integer> depths = new HashMap<>();
  private final Deque<Element> open = new ArrayDeque<>();
  private Element method;

  private CallsTest(Trees trees, Check check) {
    this.trees = trees;
    this.check = check;
  }

  public static void main(String[] args) throws IOException {
    Check check = new Check();
    JavaCompiler compiler = ToolProvider.getSystemJavaCompiler();
    try (StandardJavaFileManager files = compiler.getStandardFileManager(null, null, null)) {
      JavacTask task = (JavacTask) compiler.getTask(null, files, null, null, null,
          files.getJavaFileObjects(Path.of("src/main/java/AdderChooser.java")));
      CallsTest calls = new CallsTest(Trees.instance(task), check);
      Iterable<? extends CompilationUnitTree> units = task.parse();
      task.analyze();
      calls.scan(units, null);
      calls.depths();
    }
    check.end();
  }

  @Override
  public Void visitClass(ClassTree tree, Void nothing) {
    method = null;
    return super.visitClass(tree, nothing);
  }

  @Override
  public Void visitMethod(MethodTree tree, Void nothing) {
    method = trees.getElement(getCurrentPath());
    calls.put(method, new HashSet<>());
    super.visitMethod(tree, nothing);
    method = null;
    return null;
  }

  @Override
  public Void visitMethodInvocation(MethodInvocationTree tree, Void nothing) {
    Element called = trees.getElement(new TreePath(getCurrentPath(), tree.getMethodSelect()));
    Element owner = called.getEnclosingElement();
    if (owner.toString().startsWith("AdderChooser")) {
      check.isTrue(called + " is called in a method", method != null);
      calls.get(method).add(called);
    } else {
      String name = owner.getSimpleName() + "." + called.getSimpleName();
      check.isTrue(name + " is of the library that may be used", LIBRARY.contains(name));
    }
    return super.visitMethodInvocation(tree, nothing);
  }

  @Override
  public Void visitNewClass(NewClassTree tree, Void nothing) {
    check.isTrue(tree + " is made in the constructor", method != null && method.toString().equals("AdderChooser()"));
    return super.visitNewClass(tree, nothing);
  }

  @Override
  public Void visitNewArray(NewArrayTree tree, Void nothing) {
    TreePath at = getCurrentPath().getParentPath();
    boolean isField = at.getLeaf().getKind() == Tree.Kind.VARIABLE && at.getParentPath().getLeaf() instanceof ClassTree;
    check.isTrue(tree + " is made with an object", isField || method != null && method.toString().equals("AdderChooser()"));
    return super.visitNewArray(tree, nothing);
  }

  private void depths() {
    int deepest = 0;
    for (Element each : calls.keySet()) {
      deepest = Math.max(deepest, depthOf(each));
    }
    check.isTrue("the methods are found: " + calls.size(), calls.size() > 80);
    check.isTrue("calls go " + deepest + " deep", deepest > 1 && deepest <= MOST_DEEP);
    check.isTrue("those that call themselves are the two with a guard on their depth: " + recursive,
        recursive.equals(Set.of("AdderChooser.Net span", "AdderChooser.Search grow")));
  }

  /** How many methods stand open at most from this one on, one that calls itself counted once. */
  private int depthOf(Element of) {
    Integer there = depths.get(of);
    if (there != null) {
      return there;
    }
    open.push(of);
    int below = 0;
    for (Element called : calls.getOrDefault(of, Set.of())) {
      if (called == of) {
        Set<Modifier> modifiers = of.getModifiers();
        check.isTrue(of + " is private and static", modifiers.containsAll(Set.of(Modifier.PRIVATE, Modifier.STATIC)));
        recursive.add(of.getEnclosingElement() + " " + of.getSimpleName());
      } else if (open.contains(called)) {
        check.isTrue(of + " and " + called + " do not call one another", false);
      } else {
        below = Math.max(below, depthOf(called));
      }
    }
    open.pop();
    depths.put(of, below + 1);
    return below + 1;
  }
}
