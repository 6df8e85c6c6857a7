import com.sun.source.tree.AssignmentTree;
import com.sun.source.tree.BinaryTree;
import com.sun.source.tree.ClassTree;
import com.sun.source.tree.CompilationUnitTree;
import com.sun.source.tree.DoWhileLoopTree;
import com.sun.source.tree.ExpressionTree;
import com.sun.source.tree.ForLoopTree;
import com.sun.source.tree.MethodInvocationTree;
import com.sun.source.tree.MethodTree;
import com.sun.source.tree.NewArrayTree;
import com.sun.source.tree.PrimitiveTypeTree;
import com.sun.source.tree.ReturnTree;
import com.sun.source.tree.Tree;
import com.sun.source.tree.TypeCastTree;
import com.sun.source.tree.UnaryTree;
import com.sun.source.tree.VariableTree;
import com.sun.source.tree.WhileLoopTree;
import com.sun.source.util.JavacTask;
import com.sun.source.util.SourcePositions;
import com.sun.source.util.TreeScanner;
import com.sun.source.util.Trees;
import java.io.IOException;
import java.nio.file.Path;
import java.util.ArrayList;
import java.util.EnumSet;
import java.util.HashSet;
import java.util.List;
import java.util.Map;
import java.util.Set;
import java.util.TreeMap;
import java.util.TreeSet;
import javax.lang.model.element.Modifier;
import javax.lang.model.type.TypeKind;
import javax.tools.JavaCompiler;
import javax.tools.StandardJavaFileManager;
import javax.tools.ToolProvider;

/** The rules of LANGUAGE.md as far as they can be seen in the source's syntax: 2 to 6, 8 and 10. */
public final class LanguageTest {
  private static final int MOST_LINES = 60;
  private static final int MOST_DEPTH = 6;
  private static final Set<Tree.Kind> LEFT_OUT =
      EnumSet.of(
          Tree.Kind.THROW, Tree.Kind.TRY, Tree.Kind.CATCH, Tree.Kind.SYNCHRONIZED, Tree.Kind.ASSERT,
          Tree.Kind.INSTANCE_OF, Tree.Kind.LAMBDA_EXPRESSION, Tree.Kind.MEMBER_REFERENCE, Tree.Kind.MEMBER_SELECT,
          Tree.Kind.NEW_CLASS, Tree.Kind.STRING_LITERAL, Tree.Kind.NULL_LITERAL, Tree.Kind.FLOAT_LITERAL,
          Tree.Kind.DOUBLE_LITERAL, Tree.Kind.IMPORT, Tree.Kind.PACKAGE, Tree.Kind.ENHANCED_FOR_LOOP,
          Tree.Kind.ANNOTATION, Tree.Kind.PARAMETERIZED_TYPE);
  private static final Set<Tree.Kind> COMPARES =
      EnumSet.of(
          Tree.Kind.LESS_THAN, Tree.Kind.LESS_THAN_EQUAL, Tree.Kind.GREATER_THAN, Tree.Kind.GREATER_THAN_EQUAL);
  private static final Set<Tree.Kind> COUNTS =
      EnumSet.of(
          Tree.Kind.POSTFIX_INCREMENT, Tree.Kind.POSTFIX_DECREMENT, Tree.Kind.PREFIX_INCREMENT,
          Tree.Kind.PREFIX_DECREMENT);
  private static final Check check = new Check();

  public static void main(String[] args) throws IOException {
    Path source = Path.of("src/main/java/DocumentPaths.java");
    JavaCompiler compiler = ToolProvider.getSystemJavaCompiler();
    try (StandardJavaFileManager files = compiler.getStandardFileManager(null, null, null)) {
      JavacTask task =
          (JavacTask) compiler.getTask(null, files, null, null, null, files.getJavaFileObjects(source));
      CompilationUnitTree unit = task.parse().iterator().next();
      look(unit, Trees.instance(task).getSourcePositions());
    }
    check.end();
  }

  private static void look(CompilationUnitTree unit, SourcePositions positions) {
    check.about("the source");
    check.isTrue("no package line", unit.getPackage() == null);
    check.due("imports", unit.getImports().size(), 0);
    check.due("types in the file", unit.getTypeDecls().size(), 1);
    ClassTree type = (ClassTree) unit.getTypeDecls().get(0);
    Set<String> arrays = namesOfArrays(type);
    Map<String, Set<String>> calls = new TreeMap<>();
    for (Tree member : type.getMembers()) {
      check.isTrue("members are fields and methods", member instanceof VariableTree || member instanceof MethodTree);
      new Scanner(member instanceof VariableTree, arrays).scan(member, null);
      if (member instanceof VariableTree field && field.getModifiers().getFlags().contains(Modifier.STATIC)) {
        check.isTrue(field.getName() + " is made from constants", field.getInitializer() != null
            && callsOf(field.getInitializer()).isEmpty());
      }
      if (member instanceof MethodTree method) {
        String name = method.getName().toString();
        check.isTrue(name + " has a name of its own", calls.put(name, callsOf(method.getBody())) == null);
        long first = unit.getLineMap().getLineNumber(positions.getStartPosition(unit, method));
        long last = unit.getLineMap().getLineNumber(positions.getEndPosition(unit, method));
        check.isTrue(name + " is short", last - first + 1 <= MOST_LINES);
      }
    }
    for (String name : calls.keySet()) {
      check.isTrue(name + " calls at most " + MOST_DEPTH + " deep", depth(name, calls, List.of()) <= MOST_DEPTH);
    }
  }

  /** How deep the calls from a method go, itself counted; a method that comes to itself is too deep. */
  private static int depth(String name, Map<String, Set<String>> calls, List<String> above) {
    if (above.contains(name)) {
      return MOST_DEPTH + 1;
    }
    check.isTrue(name + " is a method of the class", calls.containsKey(name));
    List<String> path = new ArrayList<>(above);
    path.add(name);
    int deepest = 0;
    for (String called : calls.getOrDefault(name, Set.of())) {
      deepest = Math.max(deepest, depth(called, calls, path));
    }
    return deepest + 1;
  }

  private static Set<String> callsOf(Tree tree) {
    Set<String> found = new TreeSet<>();
    new TreeScanner<Void, Void>() {
      @Override
      public Void visitMethodInvocation(MethodInvocationTree call, Void none) {
        found.add(call.getMethodSelect().toString());
        return super.visitMethodInvocation(call, none);
      }
    }.scan(tree, null);
    return found;
  }

  /** The names of fields, parameters and variables that are arrays. */
  private static Set<String> namesOfArrays(ClassTree type) {
    Set<String> found = new HashSet<>();
    new TreeScanner<Void, Void>() {
      @Override
      public Void visitVariable(VariableTree variable, Void none) {
        if (variable.getType() != null && variable.getType().getKind() == Tree.Kind.ARRAY_TYPE) {
          found.add(variable.getName().toString());
        }
        return super.visitVariable(variable, none);
      }
    }.scan(type, null);
    return found;
  }

  private static boolean contains(List<? extends Tree> trees, Set<Tree.Kind> kinds) {
    boolean[] found = {false};
    new TreeScanner<Void, Void>() {
      @Override
      public Void visitBinary(BinaryTree binary, Void none) {
        found[0] |= kinds.contains(binary.getKind());
        return super.visitBinary(binary, none);
      }

      @Override
      public Void visitUnary(UnaryTree unary, Void none) {
        found[0] |= kinds.contains(unary.getKind());
        return super.visitUnary(unary, none);
      }
    }.scan(trees, null);
    return found[0];
  }

  private static final class Scanner extends TreeScanner<Void, Void> {
    private final boolean inField;
    private final Set<String> arrays;
    private int callsAround = 0;

    Scanner(boolean inField, Set<String> arrays) {
      this.inField = inField;
      this.arrays = arrays;
    }

    @Override
    public Void scan(Tree tree, Void none) {
      if (tree != null) {
        check.isTrue("allowed: " + tree.getKind(), !LEFT_OUT.contains(tree.getKind()));
      }
      return super.scan(tree, none);
    }

    @Override
    public Void visitVariable(VariableTree variable, Void none) {
      boolean isArray = arrays.contains(variable.getName().toString());
      boolean isNumber = variable.getType() instanceof PrimitiveTypeTree;
      check.isTrue(variable.getName() + " is a number or an array of numbers", isArray || isNumber);
      return super.visitVariable(variable, none);
    }

    @Override
    public Void visitPrimitiveType(PrimitiveTypeTree type, Void none) {
      TypeKind kind = type.getPrimitiveTypeKind();
      check.isTrue("a type of the rules: " + type, kind != TypeKind.FLOAT && kind != TypeKind.DOUBLE);
      return super.visitPrimitiveType(type, none);
    }

    @Override
    public Void visitTypeCast(TypeCastTree cast, Void none) {
      check.isTrue("a cast to a number: " + cast, cast.getType() instanceof PrimitiveTypeTree);
      return super.visitTypeCast(cast, none);
    }

    @Override
    public Void visitNewArray(NewArrayTree made, Void none) {
      check.isTrue("arrays are made in fields' initialisers", inField && made.getInitializers() == null);
      check.due("dimensions", made.getDimensions().size(), 1);
      Tree.Kind length = made.getDimensions().get(0).getKind();
      check.isTrue("a literal or a constant", length == Tree.Kind.INT_LITERAL || length == Tree.Kind.IDENTIFIER);
      return super.visitNewArray(made, none);
    }

    private void isNoArray(String what, ExpressionTree expression) {
      check.isTrue(what + ": " + expression, expression == null || !arrays.contains(expression.toString()));
    }

    @Override
    public Void visitAssignment(AssignmentTree assignment, Void none) {
      isNoArray("no array is changed to another one", assignment.getVariable());
      return super.visitAssignment(assignment, none);
    }

    @Override
    public Void visitBinary(BinaryTree binary, Void none) {
      isNoArray("no array is compared", binary.getLeftOperand());
      isNoArray("no array is compared", binary.getRightOperand());
      return super.visitBinary(binary, none);
    }

    @Override
    public Void visitReturn(ReturnTree answer, Void none) {
      isNoArray("no array is answered", answer.getExpression());
      return super.visitReturn(answer, none);
    }

    @Override
    public Void visitForLoop(ForLoopTree loop, Void none) {
      hasEnd(loop.getCondition(), List.copyOf(loop.getUpdate()));
      return super.visitForLoop(loop, none);
    }

    @Override
    public Void visitWhileLoop(WhileLoopTree loop, Void none) {
      hasEnd(loop.getCondition(), List.of(loop.getStatement()));
      return super.visitWhileLoop(loop, none);
    }

    @Override
    public Void visitDoWhileLoop(DoWhileLoopTree loop, Void none) {
      hasEnd(loop.getCondition(), List.of(loop.getStatement()));
      return super.visitDoWhileLoop(loop, none);
    }

    private void hasEnd(ExpressionTree condition, List<? extends Tree> steps) {
      boolean compares = condition != null && contains(List.of(condition), COMPARES);
      check.isTrue("a loop compares with a bound: " + condition, compares);
      check.isTrue("a loop counts: " + condition, contains(steps, COUNTS));
    }

    @Override
    public Void visitMethodInvocation(MethodInvocationTree call, Void none) {
      check.due("calls around " + call, callsAround, 0);
      callsAround++;
      super.visitMethodInvocation(call, none);
      callsAround--;
      return null;
    }
  }
}
