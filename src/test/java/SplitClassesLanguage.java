import com.sun.source.tree.ClassTree;
import com.sun.source.tree.CompilationUnitTree;
import com.sun.source.tree.MethodInvocationTree;
import com.sun.source.tree.MethodTree;
import com.sun.source.tree.NewArrayTree;
import com.sun.source.tree.NewClassTree;
import com.sun.source.tree.Tree;
import com.sun.source.util.JavacTask;
import com.sun.source.util.TreePathScanner;
import com.sun.source.util.Trees;
import java.io.File;
import java.util.ArrayList;
import java.util.LinkedHashMap;
import java.util.LinkedHashSet;
import java.util.List;
import java.util.Map;
import java.util.Set;
import javax.lang.model.element.Element;
import javax.lang.model.element.ElementKind;
import javax.lang.model.element.Modifier;
import javax.tools.JavaCompiler;
import javax.tools.StandardJavaFileManager;
import javax.tools.ToolProvider;

/** Rules of LANGUAGE.md that the tree of the source shows: what calls what, how deep, and where objects are made. */
public final class SplitClassesLanguage {
  private static final File SOURCE = new File("src/main/java/SplitClasses.java");
  private static final int DEEPEST = 8;
  private static final Set<Tree.Kind> RULED_OUT = Set.of(Tree.Kind.THROW, Tree.Kind.TRY, Tree.Kind.CATCH, Tree.Kind.SYNCHRONIZED,
    Tree.Kind.ASSERT, Tree.Kind.LAMBDA_EXPRESSION, Tree.Kind.MEMBER_REFERENCE, Tree.Kind.DOUBLE_LITERAL, Tree.Kind.FLOAT_LITERAL);
  private static final Set<String> ARRAYS = Set.of("copyOf", "copyOfRange", "fill");
  private static int wrong = 0;

  private static void due(String what, Object got, Object want) {
    if (got.equals(want)) return;
    wrong++;
    System.out.println(what + ": " + got + ", due is " + want);
  }

  private static final class Reader extends TreePathScanner<Void, Void> {
    final Map<String, Set<String>> calls = new LinkedHashMap<>();
    private final Trees trees;
    private String method = "";
    private int classes = 0;

    Reader(Trees trees) { this.trees = trees; }

    private Element element() { return trees.getElement(getCurrentPath()); }

    private static String nameOf(Element method) { return method.getEnclosingElement().getSimpleName() + "." + method; }

    @Override
    public Void scan(Tree tree, Void nothing) {
      if (tree != null) due("rules 2, 3, 6: " + tree, RULED_OUT.contains(tree.getKind()), false);
      return super.scan(tree, nothing);
    }

    @Override
    public Void visitClass(ClassTree tree, Void nothing) {
      classes++;
      due("rule 11: classes", classes <= 12, true);
      Element place = element().getEnclosingElement();
      if (place.getKind() == ElementKind.CLASS) {
        due("rule 2: " + tree.getSimpleName() + " is static", element().getModifiers().contains(Modifier.STATIC), true);
      } else {
        due("rule 2: a class of its own", place.getKind(), ElementKind.PACKAGE);
      }
      for (Tree member : tree.getMembers()) due("rule 5: a block", member.getKind() == Tree.Kind.BLOCK, false);
      return super.visitClass(tree, nothing);
    }

    @Override
    public Void visitMethod(MethodTree tree, Void nothing) {
      method = nameOf(element());
      calls.put(method, new LinkedHashSet<>());
      due("rule 11: parameters of " + method, tree.getParameters().size() <= 7, true);
      super.visitMethod(tree, nothing);
      method = "";
      return null;
    }

    @Override
    public Void visitMethodInvocation(MethodInvocationTree tree, Void nothing) {
      Element called = element();
      if (isOwn(called)) calls.get(method).add(nameOf(called));
      else if (called.getKind() == ElementKind.METHOD) due("rule 4: " + nameOf(called), isAllowed(called), true);
      return super.visitMethodInvocation(tree, nothing);
    }

    @Override
    public Void visitNewClass(NewClassTree tree, Void nothing) {
      due("rule 2: a body of its own: " + tree, tree.getClassBody() == null, true);
      made(tree);
      if (isOwn(element())) calls.get(method).add(nameOf(element()));
      return super.visitNewClass(tree, nothing);
    }

    @Override
    public Void visitNewArray(NewArrayTree tree, Void nothing) {
      made(tree);
      return super.visitNewArray(tree, nothing);
    }

    /** README.md: all is made in the constructor. */
    private void made(Tree tree) { due("made in " + method + ": " + tree, method.matches("(\\w+)\\.\\1\\(\\)"), true); }

    private static boolean isOwn(Element e) {
      Element at = e;
      while (at.getEnclosingElement() != null && at.getEnclosingElement().getKind() != ElementKind.PACKAGE) at = at.getEnclosingElement();
      return at.getSimpleName().contentEquals("SplitClasses");
    }

    private static boolean isAllowed(Element called) {
      String name = called.getSimpleName().toString();
      switch (called.getEnclosingElement().toString()) {
        case "java.lang.Integer":
        case "java.lang.Long":
        case "java.lang.Math": return called.getModifiers().contains(Modifier.STATIC) && !name.endsWith("Exact");
        case "java.lang.System": return name.equals("arraycopy");
        case "java.util.Arrays": return ARRAYS.contains(name);
        default: return false;
      }
    }
  }

  /** The most calls that stand open at once, this one too. */
  private static int depth(Map<String, Set<String>> calls, String method, List<String> open) {
    if (open.contains(method)) {
      due("rule 8: no recursion", method, "no recursion");
      return 0;
    }
    open.add(method);
    int deepest = 0;
    for (String called : calls.getOrDefault(method, Set.of())) deepest = Math.max(deepest, depth(calls, called, open));
    open.remove(method);
    return deepest + 1;
  }

  public static void main(String[] args) throws Exception {
    JavaCompiler compiler = ToolProvider.getSystemJavaCompiler();
    try (StandardJavaFileManager files = compiler.getStandardFileManager(null, null, null)) {
      JavacTask task = (JavacTask) compiler.getTask(null, files, null, List.of("-proc:none"), null, files.getJavaFileObjects(SOURCE));
      Iterable<? extends CompilationUnitTree> units = task.parse();
      task.analyze();
      Reader reader = new Reader(Trees.instance(task));
      for (CompilationUnitTree unit : units) {
        due("no package line", unit.getPackageName() == null, true);
        due("one public class", unit.getTypeDecls().size(), 1);
        reader.scan(unit, null);
      }
      due("methods were read", reader.calls.size() > 26, true);
      for (String method : reader.calls.keySet())
        due("rule 11: calls from " + method + " go eight deep at most", depth(reader.calls, method, new ArrayList<>()) <= DEEPEST, true);
    }
    System.out.println(wrong == 0 ? "the language is as due" : wrong + " things are not as due");
    if (wrong != 0) System.exit(1);
  }
}
