import java.lang.reflect.Constructor;
import java.lang.reflect.Field;
import java.lang.reflect.Method;
import java.lang.reflect.Modifier;
import java.util.Set;
import java.util.TreeSet;

/** The public face of the document, and what rules 1, 2, 5 and 10 say of members. */
public final class FaceTest {
  private static final String[] CONSTANTS = {
    "AXIS", "JOIN", "EITHER", "BOTH", "WITHOUT", "TURN", "REPEAT", "NTH", "WHERE", "TAG", "LEAST", "HAS", "NOT", "AND",
    "OR", "MATCH"
  };
  private static final String[] METHODS = {
    "add/3", "remove/1", "move/3", "copy/3", "label/2", "mark/2", "nodes/0", "nodeAt/1", "childAt/2", "tagOf/1",
    "valueOf/1", "token/2", "clearQuery/0", "select/2", "selected/1", "related/2", "pairs/0", "holds/1", "holders/0",
    "same/0", "watch/2", "watched/2", "gained/1", "lost/1"
  };
  private static final Set<Class<?>> TYPES =
      Set.of(
          int.class, long.class, short.class, byte.class, char.class, boolean.class, int[].class, long[].class,
          short[].class, byte[].class, char[].class, boolean[].class);
  private static final Check check = new Check();

  public static void main(String[] args) throws ReflectiveOperationException {
    theClass();
    constants();
    methods();
    fields();
    check.end();
  }

  private static void theClass() {
    check.about("the class");
    Class<?> type = DocumentPaths.class;
    check.isTrue("public and final", Modifier.isPublic(type.getModifiers()) && Modifier.isFinal(type.getModifiers()));
    check.isTrue("extends nothing", type.getSuperclass() == Object.class && type.getInterfaces().length == 0);
    check.due("nested classes", type.getDeclaredClasses().length, 0);
    Constructor<?>[] constructors = type.getDeclaredConstructors();
    check.due("constructors", constructors.length, 1);
    check.due("the constructor's parameters", constructors[0].getParameterCount(), 0);
    check.isTrue("a public constructor", Modifier.isPublic(constructors[0].getModifiers()));
  }

  private static void constants() throws ReflectiveOperationException {
    check.about("the constants");
    for (int value = 0; value < CONSTANTS.length; value++) {
      Field field = DocumentPaths.class.getField(CONSTANTS[value]);
      check.due(CONSTANTS[value], field.getInt(null), value);
      check.isTrue(CONSTANTS[value] + " is a constant", Modifier.isStatic(field.getModifiers())
          && Modifier.isFinal(field.getModifiers()) && field.getType() == int.class);
    }
  }

  private static void methods() {
    check.about("the methods");
    Set<String> found = new TreeSet<>();
    Set<String> publicNames = new TreeSet<>();
    for (Method method : DocumentPaths.class.getDeclaredMethods()) {
      if (Modifier.isPublic(method.getModifiers())) {
        found.add(method.getName() + "/" + method.getParameterCount());
        publicNames.add(method.getName());
        check.isTrue(method + " answers an int", method.getReturnType() == int.class);
        check.isTrue(method + " is not static", !Modifier.isStatic(method.getModifiers()));
        for (Class<?> type : method.getParameterTypes()) {
          check.isTrue(method + " takes ints", type == int.class);
        }
      }
    }
    check.alike("the public ones", found.toString(), new TreeSet<>(Set.of(METHODS)).toString());
    for (Method method : DocumentPaths.class.getDeclaredMethods()) {
      if (!Modifier.isPublic(method.getModifiers())) {
        check.isTrue(method + " is private", Modifier.isPrivate(method.getModifiers()));
        check.isTrue(method + " has a name of its own", !publicNames.contains(method.getName()));
        check.isTrue(method + " has at most 7 parameters", method.getParameterCount() <= 7);
        check.isTrue(method + " answers a number", !method.getReturnType().isArray());
      }
    }
  }

  private static void fields() {
    check.about("the fields");
    Set<String> constants = Set.of(CONSTANTS);
    int held = 0;
    for (Field field : DocumentPaths.class.getDeclaredFields()) {
      boolean isStatic = Modifier.isStatic(field.getModifiers());
      check.isTrue(field + " is private or of the face",
          Modifier.isPrivate(field.getModifiers()) || constants.contains(field.getName()));
      check.isTrue(field + " has a type of the rules", TYPES.contains(field.getType()));
      check.isTrue(field + " is a constant if it is static",
          !isStatic || (Modifier.isFinal(field.getModifiers()) && !field.getType().isArray()));
      check.isTrue(field + " names one array for good",
          !field.getType().isArray() || Modifier.isFinal(field.getModifiers()));
      held += isStatic ? 0 : 1;
    }
    check.isTrue("at most 40 of them", held <= 40);
  }
}
