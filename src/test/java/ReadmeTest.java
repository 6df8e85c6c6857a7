import java.io.IOException;
import java.lang.ProcessBuilder.Redirect;
import java.lang.reflect.Field;
import java.lang.reflect.Method;
import java.lang.reflect.Modifier;
import java.nio.file.Files;
import java.nio.file.Path;
import java.util.ArrayList;
import java.util.Comparator;
import java.util.List;
import java.util.Set;
import java.util.TreeSet;
import java.util.regex.Matcher;
import java.util.regex.Pattern;
import java.util.stream.Stream;

/** README.md says what is so: its commands are done as written, in a copy of the checkout. */
public final class ReadmeTest {
  private static final Pattern BLOCK = Pattern.compile("```(\\w+)\n(.*?)```\n", Pattern.DOTALL);
  private static final Pattern TEST_ROW = Pattern.compile("^\\| (\\w+Test) \\|", Pattern.MULTILINE);
  // Done as written already by whoever runs this test; here it would go on for ever.
  private static final String ALL_TESTS = ".ci/run";
  private static final Check check = new Check();

  private record Block(String language, String text) {}

  public static void main(String[] args) throws IOException, InterruptedException {
    String readme = Files.readString(Path.of("README.md"));
    namesAllOfTheFace(readme);
    namesAllTests(readme);
    check.isTrue(ALL_TESTS + " can be run", Files.isExecutable(Path.of(ALL_TESTS)));
    Path place = Files.createTempDirectory("readme");
    try {
      doAsWritten(blocks(readme), copyOfCheckout(place));
    } finally {
      clearAway(place);
    }
    check.end();
  }

  private static void namesAllOfTheFace(String readme) {
    check.about("the face in README.md");
    for (Method method : DocumentPaths.class.getDeclaredMethods()) {
      if (Modifier.isPublic(method.getModifiers())) {
        check.isTrue(method.getName() + " is in a table", readme.contains("| `" + method.getName() + "("));
      }
    }
    for (Field field : DocumentPaths.class.getFields()) {
      check.isTrue(field.getName() + " is named", readme.contains("`" + field.getName() + "`"));
    }
  }

  private static void namesAllTests(String readme) throws IOException {
    check.about("the tests in README.md");
    Set<String> named = new TreeSet<>();
    Matcher row = TEST_ROW.matcher(readme);
    while (row.find()) {
      named.add(row.group(1) + ".java");
    }
    Set<String> there = new TreeSet<>();
    try (Stream<Path> files = Files.list(Path.of("src/test/java"))) {
      files.map(file -> file.getFileName().toString()).filter(name -> name.endsWith("Test.java")).forEach(there::add);
    }
    check.alike("the table", named.toString(), there.toString());
  }

  private static List<Block> blocks(String readme) {
    List<Block> found = new ArrayList<>();
    Matcher block = BLOCK.matcher(readme);
    while (block.find()) {
      found.add(new Block(block.group(1), block.group(2)));
    }
    return found;
  }

  private static Path copyOfCheckout(Path place) throws IOException {
    Path copy = Files.createDirectory(place.resolve("main"));
    try (Stream<Path> files = Files.walk(Path.of("src"))) {
      for (Path file : files.toList()) {
        Files.copy(file, copy.resolve(file));
      }
    }
    Files.createSymbolicLink(place.resolve("shared"), Path.of("../shared").toRealPath());
    return copy;
  }

  private static void doAsWritten(List<Block> blocks, Path copy) throws IOException, InterruptedException {
    check.about("README.md done as written");
    int programs = 0;
    int commands = 0;
    int outputs = 0;
    String printed = "";
    for (Block block : blocks) {
      switch (block.language) {
        case "java" -> {
          Files.writeString(copy.resolve("Example.java"), block.text);
          programs++;
        }
        case "sh" -> {
          StringBuilder all = new StringBuilder();
          for (String command : block.text.split("\n")) {
            if (!command.equals(ALL_TESTS)) {
              all.append(run(command, copy));
              commands++;
            }
          }
          printed = all.toString();
        }
        default -> {
          check.alike("what is printed", printed, block.text);
          outputs++;
        }
      }
    }
    check.due("programs", programs, 1);
    check.due("outputs", outputs, 1);
    check.isTrue("there are commands", commands > 0);
  }

  private static String run(String command, Path copy) throws IOException, InterruptedException {
    Process process =
        new ProcessBuilder("sh", "-c", command).directory(copy.toFile()).redirectError(Redirect.INHERIT).start();
    String printed = new String(process.getInputStream().readAllBytes());
    int status = process.waitFor();
    check.due("'" + command + "' printed '" + printed + "', its exit code", status, 0);
    return printed;
  }

  private static void clearAway(Path place) throws IOException {
    try (Stream<Path> files = Files.walk(place)) {
      for (Path file : files.sorted(Comparator.reverseOrder()).toList()) {
        Files.delete(file);
      }
    }
  }
}
