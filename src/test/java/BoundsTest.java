import java.io.IOException;
import java.nio.file.Files;
import java.nio.file.Path;
import java.util.ArrayList;
import java.util.List;

/**
 * The document once more, sentence by sentence: each has a test of its own, with the numbers at its bounds.
 * The document is read, so that a sentence without a test shows.
 */
public final class BoundsTest {
  private static final int PROMISES = 25;

  public static void main(String[] args) throws IOException {
    Bounds bounds = new Bounds();
    TermBounds.look(bounds);
    EntryBounds.look(bounds);
    AddRemoveBounds.look(bounds);
    MoveCopyBounds.look(bounds);
    NodeBounds.look(bounds);
    TokenBounds.look(bounds);
    AnswerBounds.look(bounds);
    WatchBounds.look(bounds);
    String document = Files.readString(Path.of("../shared/DOC.md"));
    bounds.hasTestsFor("Terms", clauses(document, "## Terms\n"));
    for (int promise = 1; promise <= PROMISES; promise++) {
      bounds.hasTestsFor("Promise " + promise, clauses(document, "## Promise " + promise + ": "));
    }
    bounds.end();
  }

  /** The parts of a section's sentences, without the line that tells the call. */
  private static List<String> clauses(String document, String heading) {
    List<String> clauses = new ArrayList<>();
    int at = document.indexOf(heading);
    if (at < 0) {
      return clauses;
    }
    int end = document.indexOf("\n## ", at);
    String section = document.substring(document.indexOf('\n', at), end).strip();
    String text = section.replaceFirst("^`[^`]*`: ", "");
    for (String part : text.split("(?<!\\.)\\.\\s+|;\\s+|\\n+")) {
      clauses.add(part.strip().replaceAll("\\s+", " ").replaceFirst("(?<!\\.)\\.$", ""));
    }
    return clauses;
  }
}
