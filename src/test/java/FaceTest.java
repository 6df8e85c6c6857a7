import java.io.IOException;
import java.lang.reflect.Constructor;
import java.lang.reflect.Field;
import java.lang.reflect.Method;
import java.lang.reflect.Modifier;
import java.nio.file.Files;
import java.nio.file.Path;
import java.util.Arrays;
import java.util.Set;
import java.util.TreeSet;
import java.util.stream.Collectors;

/** The public face, as the document writes it down, and what rules 1, 2, 5 and 10 say of members. */
public final class FaceTest {
  private static final int CONSTANTS = 16;
  private static final int METHODS = 24;
  private static final Set<Class<?>> TYPES =
      Set.of(
          int.class, long.class, short.class, byte.class, char.class, boolean.class, int[].class, long[].class,
          short[].class, byte[].class, char[].class, boolean[].class);
  private static final Check check = new Check();

  public static void main(String[] args) throws IOException, ReflectiveOperationException {
    theClass();
    theFace();
    methods();
    fields();
    check.end();
  }

  private static void theClass() {
    check.about("the class");
    Class<?> type = DocumentPaths.class;
    check.isTrue("public and final", Modifier.isPublic(type.getModifiers()) && Modifier.isFinal(type.getModifiers()));
    check.isTrue("extends nothing", type.getSuperclass() == Object.class && type.getInterfaces().length == 0);
    check.alike("its package", type.getPackageName(), "");
    check.due("nested classes", type.getDeclaredClasses().length, 0);
    check.due("constructors", type.getDeclaredConstructors().length, 1);
  }

  private static void theFace() throws IOException, ReflectiveOperationException {
    check.about("the face");
    Set<String> due = faceOfTheDocument();
    Set<String> found = faceOfTheClass();
    check.due("lines in the document", due.size(), CONSTANTS + 1 + METHODS);
    for (String line : due) {
      check.isTrue("'" + line + "' is there", found.contains(line));
    }
    for (String line : found) {
      check.isTrue("'" + line + "' is in the document", due.contains(line));
    }
  }

  /** The lines between the braces of the document's class, without the names of parameters. */
  private static Set<String> faceOfTheDocument() throws IOException {
    String document = Files.readString(Path.of("../shared/DOC.md"));
    int from = document.indexOf("public final class DocumentPaths {\n");
    String face = document.substring(document.indexOf('\n', from), document.indexOf("\n}\n", from));
    return Arrays.stream(face.split(";"))
        .map(line -> line.strip().replaceAll("int \\w+(?=[,)])", "int"))
        .filter(line -> !line.isEmpty())
        .collect(Collectors.toCollection(TreeSet::new));
  }

  private static Set<String> faceOfTheClass() throws ReflectiveOperationException {
    Set<String> found = new TreeSet<>();
    for (Field field : DocumentPaths.class.getDeclaredFields()) {
      if (!Modifier.isPrivate(field.getModifiers())) {
        found.add(said(field.getModifiers()) + field.getType() + " " + field.getName() + " = " + field.get(null));
      }
    }
    for (Constructor<?> constructor : DocumentPaths.class.getDeclaredConstructors()) {
      found.add(said(constructor.getModifiers()) + constructor.getName() + listed(constructor.getParameterTypes()));
    }
    for (Method method : DocumentPaths.class.getDeclaredMethods()) {
      if (!Modifier.isPrivate(method.getModifiers())) {
        String name = method.getReturnType() + " " + method.getName();
        found.add(said(method.getModifiers()) + name + listed(method.getParameterTypes()));
      }
    }
    return found;
  }

  private static String said(int modifiers) {
    String text = Modifier.toString(modifiers);
    return text.isEmpty() ? "" : text + " ";
  }

  private static String listed(Class<?>[] types) {
    return Arrays.stream(types).map(Class::toString).collect(Collectors.joining(", ", "(", ")"));
  }

  private static void methods() {
    check.about("the methods");
    Set<String> publicNames = new TreeSet<>();
    for (Method method : DocumentPaths.class.getDeclaredMethods()) {
      if (Modifier.isPublic(method.getModifiers())) {
        publicNames.add(method.getName());
      }
    }
    for (Method method : DocumentPaths.class.getDeclaredMethods()) {
      check.isTrue(method + " has at most 7 parameters", method.getParameterCount() <= 7);
      check.isTrue(method + " answers a number", !method.getReturnType().isArray());
      boolean isPublic = Modifier.isPublic(method.getModifiers());
      check.isTrue(method + " has a name of its own", isPublic || !publicNames.contains(method.getName()));
    }
  }

  private static void fields() {
    check.about("the fields");
    int held = 0;
    for (Field field : DocumentPaths.class.getDeclaredFields()) {
      boolean isStatic = Modifier.isStatic(field.getModifiers());
      boolean isConstant = Modifier.isFinal(field.getModifiers()) && Set.of(int.class, long.class).contains(field.getType());
      check.isTrue(field + " has a type of the rules", TYPES.contains(field.getType()));
      check.isTrue(field + " is a constant if it is static", !isStatic || isConstant);
      check.isTrue(field + " names one array for good",
          !field.getType().isArray() || Modifier.isFinal(field.getModifiers()));
      held += isStatic ? 0 : 1;
    }
    check.isTrue("at most 40 of them", held <= 40);
  }
}
