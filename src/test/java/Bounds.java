import java.util.ArrayList;
import java.util.LinkedHashMap;
import java.util.List;
import java.util.Map;
import java.util.function.Supplier;
import java.util.function.ToIntBiFunction;
import java.util.function.ToIntFunction;

/**
 * Looks at what single sentences of the document ask for, and keeps which sentences these were, so that
 * BoundsTest can tell the ones that have no test.
 */
final class Bounds {
  private static final int[] FAR_OFF = {Integer.MIN_VALUE, Integer.MAX_VALUE};

  private final Check check = new Check();
  private final Map<String, List<String>> quoted = new LinkedHashMap<>();
  private int checksAhead = -1;

  /** Names the sentence, in the document's words, that the answers looked at from here belong to. */
  void sentence(String section, String words) {
    lookedAtSome();
    quoted.computeIfAbsent(section, s -> new ArrayList<>()).add(words);
    check.about(section + ", '" + words + "'");
    checksAhead = check.checks();
  }

  private void lookedAtSome() {
    if (checksAhead == check.checks()) {
      check.isTrue("the sentence has a test", false);
    }
  }

  void due(String call, int got, int want) {
    check.due(call, got, want);
  }

  void isTrue(String what, boolean holds) {
    check.isTrue(what, holds);
  }

  void alike(String what, String got, String want) {
    check.alike(what, got, want);
  }

  /** The call has this answer and changes nothing that any later call could show. */
  void unchanged(String text, Supplier<DocumentPaths> scene, ToIntFunction<DocumentPaths> call, int want) {
    for (View view : View.values()) {
      DocumentPaths untouched = scene.get();
      DocumentPaths touched = scene.get();
      check.due(text, call.applyAsInt(touched), want);
      check.alike("after " + text + ", " + view, view.of(touched), view.of(untouched));
    }
  }

  /** The least and the greatest number are let through; those beside the range are refused. */
  void range(
      String text,
      Supplier<DocumentPaths> scene,
      ToIntBiFunction<DocumentPaths, Integer> call,
      int least,
      int greatest,
      int refusal) {
    for (int number : new int[] {least, greatest}) {
      int answer = call.applyAsInt(scene.get(), number);
      check.isTrue(text + " with " + number + " answered " + answer + ", is let through", answer >= 0);
    }
    refusedBeside(text, scene, call, least, greatest, refusal);
  }

  void refusedBeside(
      String text,
      Supplier<DocumentPaths> scene,
      ToIntBiFunction<DocumentPaths, Integer> call,
      int least,
      int greatest,
      int refusal) {
    for (int number : new int[] {least - 1, greatest + 1, FAR_OFF[0], FAR_OFF[1]}) {
      unchanged(text + " with " + number, scene, d -> call.applyAsInt(d, number), refusal);
    }
  }

  /** Every clause of the document's section is in one of the sentences that were looked at. */
  void hasTestsFor(String section, List<String> clauses) {
    lookedAtSome();
    check.about(section);
    List<String> sentences = quoted.getOrDefault(section, List.of());
    check.isTrue("the document has this section", !clauses.isEmpty());
    for (String clause : clauses) {
      check.isTrue("'" + clause + "' has a test", sentences.stream().anyMatch(s -> s.contains(clause)));
    }
    for (String words : sentences) {
      boolean found = clauses.stream().anyMatch(clause -> words.contains(clause) || clause.contains(words));
      check.isTrue("'" + words + "' is in the document", found);
    }
  }

  void end() {
    check.end();
  }
}
