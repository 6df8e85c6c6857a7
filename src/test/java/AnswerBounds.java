import java.util.List;
import java.util.function.Supplier;
import java.util.function.ToIntFunction;

/** The sentences of the promises 15 to 21: select, selected, related, pairs, holds, holders, same. */
final class AnswerBounds {
  private static final String NONE = "AXIS 0, AXIS 0, WITHOUT";
  private static final String ALL = "AXIS 1, AXIS 2, EITHER, REPEAT";

  private final Bounds bounds;

  private AnswerBounds(Bounds bounds) {
    this.bounds = bounds;
  }

  static void look(Bounds bounds) {
    AnswerBounds tests = new AnswerBounds(bounds);
    tests.select();
    tests.selectNoNodeOrNoPath();
    tests.selectNotSoMany();
    tests.selectAnswer();
    tests.selected();
    tests.selectedRefused();
    tests.related();
    tests.relatedRefused();
    tests.pairs();
    tests.pairsRefused();
    tests.holds();
    tests.holdsRefused();
    tests.holders();
    tests.holdersRefused();
    tests.same();
    tests.sameRefused();
  }

  private static Supplier<DocumentPaths> small(String tokens) {
    return () -> Scenes.with(Scenes.noQuery(), tokens);
  }

  private static DocumentPaths wide(String tokens) {
    return Scenes.with(Trees.wide(), tokens);
  }

  private void noPath(String text, ToIntFunction<DocumentPaths> call) {
    bounds.unchanged(text + ", an empty query", Scenes::noQuery, call, -1);
    bounds.unchanged(text + ", a condition at the top", Scenes::conditionOnTop, call, -1);
    bounds.unchanged(text + ", a condition as the eighth entry", Scenes::eightEntries, call, -1);
  }

  private void noCondition(String text, ToIntFunction<DocumentPaths> call) {
    bounds.unchanged(text + ", an empty query", Scenes::noQuery, call, -1);
    bounds.unchanged(text + ", a path at the top", Scenes::pathOnTop, call, -1);
    bounds.unchanged(text + ", a path as the eighth entry", Scenes::twentyFourTokens, call, -1);
  }

  private void select() {
    bounds.sentence(
        "Promise 15", "The k-th (0 for the first) in document order of all nodes y such that (node, y) is in the top");
    int[] below = {1, 4, 5, 6, 2, 3, 7};
    for (int k = 0; k < below.length; k++) {
      int number = k;
      bounds.unchanged("select(0, " + k + ")", Scenes::pathOnTop, d -> d.select(0, number), below[k]);
    }
    for (int k = 0; k < 32; k++) {
      bounds.due("select(31, " + k + ") of all", wide(ALL).select(31, k), k);
    }
  }

  private void selectNoNodeOrNoPath() {
    bounds.sentence("Promise 15", "There is no such node, or the top is no path (also if the query is empty): -1");
    bounds.range("select from a node of 8", small("AXIS 0"), (d, node) -> d.select(node, 0), 0, 7, -1);
    bounds.range(
        "select from a node of 32",
        () -> Scenes.with(Scenes.wide(), "AXIS 0"), (d, node) -> d.select(node, 0), 0, 31, -1);
    bounds.unchanged(
        "one taken out", () -> Scenes.without(Scenes.pathOnTop(), 1), d -> d.select(5, 0), -1);
    noPath("select(0, 0)", d -> d.select(0, 0));
    noPath("select(0, -1), -1 ahead of -2", d -> d.select(0, -1));
    noPath("select(8, 0)", d -> d.select(8, 0));
    bounds.unchanged("-1 ahead of -2, k too small", Scenes::pathOnTop, d -> d.select(8, -1), -1);
    bounds.unchanged("-1 ahead of -2, k too great", Scenes::pathOnTop, d -> d.select(-1, 9), -1);
  }

  private void selectNotSoMany() {
    bounds.sentence("Promise 15", "there are not so many, or k is below 0: -2");
    bounds.range("the k of 7", Scenes::pathOnTop, (d, k) -> d.select(0, k), 0, 6, -2);
    bounds.range("the k of 1", Scenes::pathOnTop, (d, k) -> d.select(3, k), 0, 0, -2);
    bounds.range("the k of 32", () -> Scenes.with(Scenes.wide(), ALL), (d, k) -> d.select(5, k), 0, 31, -2);
    for (int k : new int[] {-1, 0, 1}) {
      bounds.unchanged("the k of none, " + k, Scenes::pathOnTop, d -> d.select(2, k), -2);
      bounds.unchanged("the k of no pairs, " + k, small(NONE), d -> d.select(0, k), -2);
    }
  }

  private void selectAnswer() {
    bounds.sentence("Promise 15", "Else answers its number");
    bounds.due("select(7, 0) of itself", small("AXIS 0").get().select(7, 0), 7);
    bounds.due("select(7, 0) of those above", small("AXIS 4").get().select(7, 0), 0);
    bounds.due("select(0, 30) of 31", wide("AXIS 1").select(0, 30), 31);
  }

  private void selected() {
    bounds.sentence("Promise 16", "How many nodes y there are such that (node, y) is in the top");
    int[] below = {7, 3, 0, 1, 0, 1, 0, 0};
    for (int node = 0; node < below.length; node++) {
      int number = node;
      bounds.unchanged("selected(" + node + ")", Scenes::pathOnTop, d -> d.selected(number), below[node]);
    }
    bounds.due("selected(0) of 31", wide("AXIS 1").selected(0), 31);
    bounds.due("selected(31) of all", wide(ALL).selected(31), 32);
    bounds.due("selected(0) of none", wide(NONE).selected(0), 0);
  }

  private void selectedRefused() {
    bounds.sentence("Promise 16", "-1 as for select");
    bounds.range("selected, of 8", Scenes::pathOnTop, DocumentPaths::selected, 0, 7, -1);
    bounds.range("selected, of 32", Scenes::wide, DocumentPaths::selected, 0, 31, -1);
    bounds.unchanged("one taken out", () -> Scenes.without(Scenes.pathOnTop(), 1), d -> d.selected(5), -1);
    noPath("selected(0)", d -> d.selected(0));
    noPath("selected(8)", d -> d.selected(8));
  }

  private void related() {
    bounds.sentence("Promise 17", "1 if (x, y) is in the top, else 0");
    bounds.unchanged("related(0, 7)", Scenes::pathOnTop, d -> d.related(0, 7), 1);
    bounds.unchanged("related(7, 0)", Scenes::pathOnTop, d -> d.related(7, 0), 0);
    bounds.unchanged("related(0, 0)", Scenes::pathOnTop, d -> d.related(0, 0), 0);
    bounds.due("related(0, 31) of 31", wide("AXIS 1").related(0, 31), 1);
    bounds.due("related(31, 0) of 31", wide("AXIS 1").related(31, 0), 0);
    bounds.due("related(31, 0), parents", wide("AXIS 2").related(31, 0), 1);
    bounds.due("related(31, 31), itself", wide("AXIS 0").related(31, 31), 1);
    bounds.due("related(31, 31) of none", wide(NONE).related(31, 31), 0);
  }

  private void relatedRefused() {
    bounds.sentence("Promise 17", "There is no node x or no node y, or the top is no path: -1");
    bounds.range("related x, of 8", Scenes::pathOnTop, (d, x) -> d.related(x, 0), 0, 7, -1);
    bounds.range("related y, of 8", Scenes::pathOnTop, (d, y) -> d.related(0, y), 0, 7, -1);
    bounds.range("related x, of 32", Scenes::wide, (d, x) -> d.related(x, 0), 0, 31, -1);
    bounds.range("related y, of 32", Scenes::wide, (d, y) -> d.related(0, y), 0, 31, -1);
    bounds.unchanged("both missing", Scenes::pathOnTop, d -> d.related(8, 8), -1);
    bounds.unchanged("x taken out", () -> Scenes.without(Scenes.pathOnTop(), 1), d -> d.related(5, 0), -1);
    bounds.unchanged("y taken out", () -> Scenes.without(Scenes.pathOnTop(), 1), d -> d.related(0, 5), -1);
    noPath("related(0, 1)", d -> d.related(0, 1));
    noPath("related(8, 8)", d -> d.related(8, 8));
  }

  private void pairs() {
    bounds.sentence("Promise 18", "How many pairs are in the top");
    bounds.unchanged("pairs()", Scenes::pathOnTop, DocumentPaths::pairs, 12);
    bounds.due("none", wide(NONE).pairs(), 0);
    bounds.due("all of 32", wide(ALL).pairs(), 1024);
    bounds.due("all of 1", Scenes.with(new DocumentPaths(), ALL).pairs(), 1);
    bounds.due("all of 8", small(ALL).get().pairs(), 64);
  }

  private void pairsRefused() {
    bounds.sentence("Promise 18", "-1 if it is no path");
    noPath("pairs()", DocumentPaths::pairs);
    bounds.due("a path with no pairs", small(NONE).get().pairs(), 0);
  }

  private void holds() {
    bounds.sentence("Promise 19", "1 if the node is in the top, else 0");
    int[] tagOne = {0, 1, 0, 1, 0, 0, 1, 0};
    for (int node = 0; node < tagOne.length; node++) {
      int number = node;
      bounds.unchanged("holds(" + node + ")", Scenes::conditionOnTop, d -> d.holds(number), tagOne[node]);
    }
    bounds.due("holds(31) of all", wide("TAG 0").holds(31), 1);
    bounds.due("holds(31) of none", wide("TAG 7").holds(31), 0);
    bounds.due("holds(0) of all", wide("TAG 0").holds(0), 1);
  }

  private void holdsRefused() {
    bounds.sentence("Promise 19", "There is no such node, or the top is no condition: -1");
    bounds.range("holds, of 8", Scenes::conditionOnTop, DocumentPaths::holds, 0, 7, -1);
    bounds.range("holds, of 32", () -> Scenes.with(Scenes.wide(), "TAG 0"), DocumentPaths::holds, 0, 31, -1);
    bounds.unchanged("one taken out", () -> Scenes.without(Scenes.conditionOnTop(), 1), d -> d.holds(6), -1);
    noCondition("holds(0)", d -> d.holds(0));
    noCondition("holds(8)", d -> d.holds(8));
  }

  private void holders() {
    bounds.sentence("Promise 20", "How many nodes are in the top");
    bounds.unchanged("holders()", Scenes::conditionOnTop, DocumentPaths::holders, 3);
    bounds.due("none", wide("TAG 7").holders(), 0);
    bounds.due("all of 32", wide("TAG 0").holders(), 32);
    bounds.due("all of 1", Scenes.with(new DocumentPaths(), "TAG 0").holders(), 1);
    bounds.due("all of 8", small("LEAST -99").get().holders(), 8);
  }

  private void holdersRefused() {
    bounds.sentence("Promise 20", "-1 if it is no condition");
    noCondition("holders()", DocumentPaths::holders);
    bounds.due("a condition of no nodes", small("TAG 7").get().holders(), 0);
  }

  private void same() {
    bounds.sentence("Promise 21", "1 if the two topmost entries stand for the same set now, else 0");
    bounds.unchanged("the same paths", small("AXIS 2, AXIS 1, TURN"), DocumentPaths::same, 1);
    bounds.unchanged("other paths", small("AXIS 2, AXIS 1"), DocumentPaths::same, 0);
    bounds.unchanged("the same conditions", small("TAG 7, LEAST 99"), DocumentPaths::same, 1);
    bounds.unchanged("other conditions", small("TAG 1, TAG 2"), DocumentPaths::same, 0);
    bounds.due("paths of no pairs", small(NONE + ", AXIS 1, AXIS 2, BOTH").get().same(), 1);
    bounds.due("paths of all pairs", wide(ALL + ", " + ALL).same(), 1);
    bounds.due("conditions of all nodes", wide("TAG 0, LEAST 0").same(), 1);
    bounds.due("a path within the other one", small("AXIS 1, AXIS 3").get().same(), 0);
    bounds.due("a path around the other one", small("AXIS 3, AXIS 1").get().same(), 0);
    bounds.due("a condition within the other one", small("TAG 3, LEAST -99").get().same(), 0);
    bounds.due("a condition around the other one", small("LEAST -99, TAG 3").get().same(), 0);
    for (int node : new int[] {0, 31}) {
      DocumentPaths d = Trees.wide();
      d.label(node, 1);
      bounds.due("paths but for node " + node, Scenes.with(d, "AXIS 0, AXIS 0, TAG 0, WHERE").same(), 0);
      d.clearQuery();
      bounds.due("conditions but for node " + node, Scenes.with(d, "LEAST 0, TAG 0").same(), 0);
      d.label(node, 0);
      bounds.due("now the same", d.same(), 1);
    }
    String six = "AXIS 1, TAG 1, AXIS 1, TAG 1, AXIS 1, AXIS 2, ";
    bounds.due("the two topmost of eight", small(six + "AXIS 8, AXIS 8").get().same(), 1);
    bounds.due("the two topmost of eight, others", small(six + "AXIS 2, AXIS 8").get().same(), 0);
    bounds.due("conditions as the two topmost of eight", small(six + "TAG 1, TAG 1").get().same(), 1);
  }

  private void sameRefused() {
    bounds.sentence(
        "Promise 21", "There are fewer than two entries, or one of the two is a path and the other a condition: -1");
    for (String one : List.of("AXIS 1", "TAG 1", NONE, "TAG 7")) {
      bounds.unchanged("one entry, " + one, small(one), DocumentPaths::same, -1);
    }
    bounds.unchanged("an empty query", Scenes::noQuery, DocumentPaths::same, -1);
    bounds.unchanged("a condition over a path", Scenes::conditionOnTop, DocumentPaths::same, -1);
    bounds.unchanged("a path over a condition", Scenes::pathOnTop, DocumentPaths::same, -1);
    bounds.unchanged("both of nothing", small(NONE + ", TAG 7"), DocumentPaths::same, -1);
    bounds.unchanged("a condition over a path, of eight", Scenes::eightEntries, DocumentPaths::same, -1);
    bounds.unchanged("one left of two", small("AXIS 1, AXIS 1, JOIN"), DocumentPaths::same, -1);
  }
}
