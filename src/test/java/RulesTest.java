import com.sun.source.tree.AssignmentTree;
import com.sun.source.tree.ClassTree;
import com.sun.source.tree.CompilationUnitTree;
import com.sun.source.tree.DoWhileLoopTree;
import com.sun.source.tree.ExpressionTree;
import com.sun.source.tree.ForLoopTree;
import com.sun.source.tree.MethodInvocationTree;
import com.sun.source.tree.MethodTree;
import com.sun.source.tree.NewArrayTree;
import com.sun.source.tree.NewClassTree;
import com.sun.source.tree.Tree;
import com.sun.source.tree.VariableTree;
import com.sun.source.util.JavacTask;
import com.sun.source.util.TreePath;
import com.sun.source.util.TreePathScanner;
import com.sun.source.util.Trees;
import java.io.IOException;
import java.nio.file.Path;
import java.util.ArrayList;
import java.util.EnumSet;
import java.util.HashMap;
import java.util.List;
import java.util.Map;
import java.util.Set;
import java.util.TreeSet;
import javax.lang.model.element.Element;
import javax.lang.model.element.ElementKind;
import javax.lang.model.element.ExecutableElement;
import javax.lang.model.element.Modifier;
import javax.lang.model.element.VariableElement;
import javax.tools.JavaCompiler;
import javax.tools.StandardJavaFileManager;
import javax.tools.ToolProvider;

/** The rules of LANGUAGE.md that only the compiler's own tree of the source shows: who calls whom, what is made where. */
public final class RulesTest {
  private static int wrong = 0;

  private static final Set<String> LIBRARY = Set.of("String.length()", "String.charAt(int)", "Math.max(int,int)",
      "Math.min(int,int)", "Integer.bitCount(int)", "Object.<init>()", "Arrays.fill(int[],int)", "Arrays.fill(long[],long)",
      "System.arraycopy(java.lang.Object,int,java.lang.Object,int,int)");

  private static final Set<Tree.Kind> NEVER = EnumSet.of(Tree.Kind.THROW, Tree.Kind.TRY, Tree.Kind.CATCH, Tree.Kind.ASSERT,
      Tree.Kind.SYNCHRONIZED, Tree.Kind.LAMBDA_EXPRESSION, Tree.Kind.MEMBER_REFERENCE, Tree.Kind.SWITCH_EXPRESSION,
      Tree.Kind.DOUBLE_LITERAL, Tree.Kind.FLOAT_LITERAL, Tree.Kind.TYPE_CAST, Tree.Kind.INSTANCE_OF);

  /** Casts are kept to numbers: (int), (long), (byte). */
  private static final Set<String> CASTS = Set.of("int", "long", "byte");

  private static void say(boolean good, String what) {
    if (!good) { wrong++; System.out.println(what); }
  }

  public static void main(String[] args) throws IOException {
    JavaCompiler compiler = ToolProvider.getSystemJavaCompiler();
    StandardJavaFileManager files = compiler.getStandardFileManager(null, null, null);
    JavacTask task = (JavacTask) compiler.getTask(null, files, null, List.of("-proc:none"), null,
        files.getJavaFileObjects(Path.of("src/main/java/GhostPike.java")));
    Iterable<? extends CompilationUnitTree> units = task.parse();
    task.analyze();
    Walk walk = new Walk(Trees.instance(task));
    for (CompilationUnitTree unit : units) walk.scan(unit, null);
    say(walk.calls.size() > 100, "no calls were found: the test is blind");
    Map<String, Integer> depths = new HashMap<>();
    for (String from : new TreeSet<>(walk.calls.keySet())) {
      int depth = depth(from, walk.calls, depths, new ArrayList<>());
      say(depth <= 8, "rule 11: calls go " + depth + " deep from " + from);
    }
    System.out.println(wrong == 0 ? "the rules are kept to" : wrong + " rules are broken");
    if (wrong != 0) System.exit(1);
  }

  /** How many calls stand open at once from here on; a library's function is one of them. */
  private static int depth(String of, Map<String, Set<String>> calls, Map<String, Integer> known, List<String> open) {
    if (open.contains(of)) { say(false, "rule 8: " + of + " comes to itself by " + open); return 0; }
    Integer depth = known.get(of);
    if (depth != null) return depth;
    open.add(of);
    int deepest = 0;
    for (String next : calls.getOrDefault(of, Set.of())) deepest = Math.max(deepest, depth(next, calls, known, open));
    open.remove(open.size() - 1);
    known.put(of, deepest + 1);
    return deepest + 1;
  }

  private static final class Walk extends TreePathScanner<Void, Void> {
    final Map<String, Set<String>> calls = new HashMap<>();
    private final Trees trees;
    private String in = "";

    Walk(Trees trees) { this.trees = trees; }

    @Override public Void scan(Tree tree, Void v) {
      if (tree != null && NEVER.contains(tree.getKind())) {
        String text = tree.toString();
        boolean number = tree.getKind() == Tree.Kind.TYPE_CAST && CASTS.contains(text.substring(1, text.indexOf(')')));
        say(number, "rules 2, 3, 6: " + tree.getKind() + " in " + in + ": " + text);
      }
      return super.scan(tree, v);
    }

    @Override public Void visitClass(ClassTree tree, Void v) {
      String before = in;
      // A field's initialiser runs in the constructor.
      in = tree.getSimpleName() + ".<init>";
      super.visitClass(tree, v);
      in = before;
      return null;
    }

    @Override public Void visitMethod(MethodTree tree, Void v) {
      String before = in;
      in = nameOf((ExecutableElement) trees.getElement(getCurrentPath()));
      calls.computeIfAbsent(in, k -> new TreeSet<>());
      long lines = line(trees.getSourcePositions().getEndPosition(unit(), tree)) - line(trees.getSourcePositions().getStartPosition(unit(), tree));
      say(lines < 70, "rule 11: " + in + " has " + lines + " lines");
      super.visitMethod(tree, v);
      in = before;
      return null;
    }

    @Override public Void visitVariable(VariableTree tree, Void v) {
      Element element = trees.getElement(getCurrentPath());
      if (element.getKind() == ElementKind.FIELD && element.getModifiers().contains(Modifier.STATIC)) {
        Object value = ((VariableElement) element).getConstantValue();
        say(element.getModifiers().contains(Modifier.FINAL) && value != null, "rule 5: " + element + " is no constant");
        if (value instanceof String) say(((String) value).chars().allMatch(c -> c >= 1 && c < 128), "rule 4: signs of " + element);
      }
      String type = element.asType().toString();
      say(!type.contains("double") && !type.contains("float") && !type.contains("[][]"), "rule 3: " + type + " " + element);
      return super.visitVariable(tree, v);
    }

    @Override public Void visitMethodInvocation(MethodInvocationTree tree, Void v) {
      call((ExecutableElement) trees.getElement(getCurrentPath()));
      return super.visitMethodInvocation(tree, v);
    }

    @Override public Void visitNewClass(NewClassTree tree, Void v) {
      say(tree.getClassBody() == null, "rule 2: a class without a name in " + in);
      say(in.contains("<init>"), "rule 12: " + in + " makes " + tree);
      call((ExecutableElement) trees.getElement(getCurrentPath()));
      return super.visitNewClass(tree, v);
    }

    @Override public Void visitNewArray(NewArrayTree tree, Void v) {
      say(in.contains("<init>") || in.startsWith("Dreams.learnFor("), "rule 12: " + in + " makes " + tree);
      for (ExpressionTree size : tree.getDimensions()) {
        Element element = trees.getElement(new TreePath(getCurrentPath(), size));
        boolean constant = element instanceof VariableElement && ((VariableElement) element).getConstantValue() != null;
        say(constant || size.toString().matches("[A-Z_a-z.]+ \\* [A-Z_a-z.]+"), "rule 7: a length that is no constant: " + tree);
      }
      return super.visitNewArray(tree, v);
    }

    @Override public Void visitForLoop(ForLoopTree tree, Void v) {
      say(tree.getCondition() != null, "rule 9: a loop without an end in " + in);
      return super.visitForLoop(tree, v);
    }

    @Override public Void visitDoWhileLoop(DoWhileLoopTree tree, Void v) {
      say(false, "rule 9: the end of a do-while is not looked at by this test, in " + in);
      return super.visitDoWhileLoop(tree, v);
    }

    @Override public Void visitAssignment(AssignmentTree tree, Void v) {
      Element element = trees.getElement(new TreePath(getCurrentPath(), tree.getVariable()));
      boolean statics = element != null && element.getKind() == ElementKind.FIELD && element.getModifiers().contains(Modifier.STATIC);
      say(!statics, "rule 5: " + tree);
      return super.visitAssignment(tree, v);
    }

    private void call(ExecutableElement to) {
      String name = nameOf(to);
      boolean own = to.getEnclosingElement().toString().startsWith("GhostPike");
      say(own || LIBRARY.contains(name), "rule 4: " + name + " in " + in);
      calls.computeIfAbsent(in, k -> new TreeSet<>()).add(name);
      if (to.getKind() == ElementKind.CONSTRUCTOR) calls.get(in).add(to.getEnclosingElement().getSimpleName() + ".<init>");
    }

    private static String nameOf(ExecutableElement element) {
      StringBuilder s = new StringBuilder(element.getEnclosingElement().getSimpleName()).append('.').append(element.getSimpleName()).append('(');
      for (VariableElement p : element.getParameters()) s.append(s.charAt(s.length() - 1) == '(' ? "" : ",").append(p.asType());
      return s.append(')').toString();
    }

    private CompilationUnitTree unit() { return getCurrentPath().getCompilationUnit(); }
    private long line(long position) { return unit().getLineMap().getLineNumber(position); }
  }
}
