import com.sun.source.tree.AssignmentTree;
import com.sun.source.tree.ClassTree;
import com.sun.source.tree.CompilationUnitTree;
import com.sun.source.tree.ExpressionTree;
import com.sun.source.tree.IdentifierTree;
import com.sun.source.tree.MethodInvocationTree;
import com.sun.source.tree.MethodTree;
import com.sun.source.tree.NewArrayTree;
import com.sun.source.tree.Tree;
import com.sun.source.tree.VariableTree;
import com.sun.source.util.JavacTask;
import com.sun.source.util.SourcePositions;
import com.sun.source.util.TreeScanner;
import com.sun.source.util.Trees;
import java.io.IOException;
import java.nio.file.Path;
import java.util.EnumSet;
import java.util.HashSet;
import java.util.List;
import java.util.Map;
import java.util.Set;
import java.util.TreeMap;
import java.util.TreeSet;
import javax.tools.JavaCompiler;
import javax.tools.StandardJavaFileManager;
import javax.tools.ToolProvider;

/** The rules of LANGUAGE.md that can be seen in the source's syntax: 3, 4, 6, 8 (recursion) and 10. */
public final class LanguageTest {
  private static final int MOST_LINES = 60;
  private static final int MOST_DEPTH = 6;
  private static final Set<Tree.Kind> LEFT_OUT =
      EnumSet.of(
          Tree.Kind.THROW, Tree.Kind.TRY, Tree.Kind.CATCH, Tree.Kind.SYNCHRONIZED, Tree.Kind.ASSERT,
          Tree.Kind.INSTANCE_OF, Tree.Kind.LAMBDA_EXPRESSION, Tree.Kind.MEMBER_REFERENCE, Tree.Kind.MEMBER_SELECT,
          Tree.Kind.NEW_CLASS, Tree.Kind.STRING_LITERAL, Tree.Kind.NULL_LITERAL, Tree.Kind.FLOAT_LITERAL,
          Tree.Kind.DOUBLE_LITERAL, Tree.Kind.IMPORT, Tree.Kind.PACKAGE, Tree.Kind.ENHANCED_FOR_LOOP,
          Tree.Kind.ANNOTATION, Tree.Kind.PARAMETERIZED_TYPE);
  private static final Check check = new Check();

  public static void main(String[] args) throws IOException {
    Path source = Path.of(System.getProperty("documentpaths.source"));
    JavaCompiler compiler = ToolProvider.getSystemJavaCompiler();
    try (StandardJavaFileManager files = compiler.getStandardFileManager(null, null, null)) {
      JavacTask task =
          (JavacTask) compiler.getTask(null, files, null, null, null, files.getJavaFileObjects(source));
      CompilationUnitTree unit = task.parse().iterator().next();
      look(unit, Trees.instance(task).getSourcePositions());
    }
    check.end();
  }

  private static void look(CompilationUnitTree unit, SourcePositions positions) {
    check.about("the source");
    check.due("types in the file", unit.getTypeDecls().size(), 1);
    ClassTree type = (ClassTree) unit.getTypeDecls().get(0);
    Set<String> arrays = new HashSet<>();
    Map<String, Set<String>> calls = new TreeMap<>();
    for (Tree member : type.getMembers()) {
      check.isTrue("members are fields and methods", member instanceof VariableTree || member instanceof MethodTree);
      new Scanner(member instanceof VariableTree).scan(member, null);
      if (member instanceof VariableTree field && field.getType().getKind() == Tree.Kind.ARRAY_TYPE) {
        arrays.add(field.getName().toString());
      }
      if (member instanceof MethodTree method) {
        String name = method.getName().toString();
        check.isTrue(name + " has a name of its own", calls.put(name, callsOf(method)) == null);
        long first = unit.getLineMap().getLineNumber(positions.getStartPosition(unit, method));
        long last = unit.getLineMap().getLineNumber(positions.getEndPosition(unit, method));
        check.isTrue(name + " is short", last - first + 1 <= MOST_LINES);
        assignsNoArray(method, arrays);
      }
    }
    for (String name : calls.keySet()) {
      check.isTrue(name + " calls at most " + MOST_DEPTH + " deep", depth(name, calls, List.of()) <= MOST_DEPTH);
    }
  }

  /** How deep the calls from a method go, itself counted; a method that comes to itself is too deep. */
  private static int depth(String name, Map<String, Set<String>> calls, List<String> above) {
    if (above.contains(name)) {
      return MOST_DEPTH + 1;
    }
    check.isTrue(name + " is a method of the class", calls.containsKey(name));
    List<String> path = new java.util.ArrayList<>(above);
    path.add(name);
    int deepest = 0;
    for (String called : calls.getOrDefault(name, Set.of())) {
      deepest = Math.max(deepest, depth(called, calls, path));
    }
    return deepest + 1;
  }

  private static Set<String> callsOf(MethodTree method) {
    Set<String> found = new TreeSet<>();
    new TreeScanner<Void, Void>() {
      @Override
      public Void visitMethodInvocation(MethodInvocationTree call, Void none) {
        found.add(call.getMethodSelect().toString());
        return super.visitMethodInvocation(call, none);
      }
    }.scan(method.getBody(), null);
    return found;
  }

  private static void assignsNoArray(MethodTree method, Set<String> arrays) {
    new TreeScanner<Void, Void>() {
      @Override
      public Void visitAssignment(AssignmentTree assignment, Void none) {
        ExpressionTree to = assignment.getVariable();
        boolean isArray = to instanceof IdentifierTree && arrays.contains(to.toString());
        check.isTrue(method.getName() + " assigns to no array field", !isArray);
        return super.visitAssignment(assignment, none);
      }
    }.scan(method, null);
  }

  private static final class Scanner extends TreeScanner<Void, Void> {
    private final boolean inField;
    private int callsAround = 0;

    Scanner(boolean inField) {
      this.inField = inField;
    }

    @Override
    public Void scan(Tree tree, Void none) {
      if (tree != null) {
        check.isTrue("allowed: " + tree.getKind(), !LEFT_OUT.contains(tree.getKind()));
      }
      return super.scan(tree, none);
    }

    @Override
    public Void visitNewArray(NewArrayTree made, Void none) {
      check.isTrue("arrays are made in fields' initialisers", inField && made.getInitializers() == null);
      check.due("dimensions", made.getDimensions().size(), 1);
      Tree.Kind length = made.getDimensions().get(0).getKind();
      check.isTrue("a literal or a constant", length == Tree.Kind.INT_LITERAL || length == Tree.Kind.IDENTIFIER);
      return super.visitNewArray(made, none);
    }

    @Override
    public Void visitMethodInvocation(MethodInvocationTree call, Void none) {
      check.due("calls around " + call, callsAround, 0);
      callsAround++;
      super.visitMethodInvocation(call, none);
      callsAround--;
      return null;
    }
  }
}
