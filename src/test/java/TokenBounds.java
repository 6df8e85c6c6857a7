import java.util.List;
import java.util.function.Supplier;

/** The sentences of the promises 13 and 14: token, clearQuery. */
final class TokenBounds {
  private static final int[] FAR_OFF = {Integer.MIN_VALUE, -1, 0, 1, Integer.MAX_VALUE};
  private static final List<String> BESIDE_THEIR_RANGE =
      List.of(
          "AXIS -1", "AXIS 9", "NTH -10", "NTH 0", "NTH 10", "TAG -1", "TAG 8", "LEAST -100", "LEAST 100", "HAS 0",
          "HAS 10");
  private static final List<String> TAKING_NOTHING = List.of("AXIS 1", "TAG 1", "LEAST 1");
  private static final List<String> TAKING_P = List.of("TURN", "REPEAT", "NTH 1", "HAS 1");
  private static final List<String> TAKING_C = List.of("NOT");
  private static final List<String> TAKING_PQ = List.of("JOIN", "EITHER", "BOTH", "WITHOUT", "MATCH");
  private static final List<String> TAKING_PC = List.of("WHERE");
  private static final List<String> TAKING_CD = List.of("AND", "OR");

  private final Bounds bounds;

  private TokenBounds(Bounds bounds) {
    this.bounds = bounds;
  }

  static void look(Bounds bounds) {
    TokenBounds tests = new TokenBounds(bounds);
    tests.putsAtTheEnd();
    tests.numbersLookedAt();
    tests.numbersNotLookedAt();
    tests.kinds();
    tests.kindAndNumberAheadOfAll();
    tests.twentyFourTokens();
    tests.twentyFourTokensSinceClearQuery();
    tests.twentyFourTokensAheadOfTheRest();
    tests.tooFewEntries();
    tests.entriesOfOtherSorts();
    tests.eightEntries();
    tests.answer();
    tests.clearQuery();
    tests.clearQueryAnswer();
  }

  private void refused(String token, Supplier<DocumentPaths> scene, int want) {
    bounds.unchanged(token, scene, d -> Scenes.put(d, token), want);
  }

  private void taken(String token, Supplier<DocumentPaths> scene, int entries) {
    bounds.due(token, Scenes.put(scene.get(), token), entries);
  }

  private void putsAtTheEnd() {
    bounds.sentence("Promise 13", "Puts one token at the end of the query");
    DocumentPaths d = Trees.small();
    Scenes.put(d, "AXIS 1");
    bounds.due("pairs()", d.pairs(), 7);
    Scenes.put(d, "AXIS 3");
    bounds.due("pairs()", d.pairs(), 12);
    Scenes.put(d, "TAG 3");
    bounds.due("holders()", d.holders(), 2);
    Scenes.put(d, "WHERE");
    bounds.due("pairs()", d.pairs(), 4);
    Scenes.put(d, "JOIN");
    bounds.due("pairs()", d.pairs(), 2);
    bounds.due("clearQuery()", d.clearQuery(), 1);
  }

  private void numbersLookedAt() {
    bounds.sentence(
        "Promise 13",
        "'a' is looked at for AXIS (0 to 8), NTH (-9 to 9, but not 0), TAG (0 to 7), LEAST (-99 to 99) and HAS (1 to"
            + " 9) only");
    bounds.range("AXIS", Scenes::small, (d, a) -> d.token(DocumentPaths.AXIS, a), 0, 8, -1);
    bounds.range("NTH", Scenes::small, (d, a) -> d.token(DocumentPaths.NTH, a), -9, 9, -1);
    bounds.range("TAG", Scenes::small, (d, a) -> d.token(DocumentPaths.TAG, a), 0, 7, -1);
    bounds.range("LEAST", Scenes::small, (d, a) -> d.token(DocumentPaths.LEAST, a), -99, 99, -1);
    bounds.range("HAS", Scenes::small, (d, a) -> d.token(DocumentPaths.HAS, a), 1, 9, -1);
    taken("NTH -1", Scenes::small, 3);
    refused("NTH 0", Scenes::small, -1);
    taken("NTH 1", Scenes::small, 3);
  }

  private void numbersNotLookedAt() {
    bounds.sentence("Promise 13", "LEAST (-99 to 99) and HAS (1 to 9) only");
    for (int a : FAR_OFF) {
      for (String kind : List.of("TURN", "REPEAT")) {
        taken(kind + " " + a, Scenes::pathOnTop, 2);
      }
      for (String kind : TAKING_PQ) {
        taken(kind + " " + a, Scenes::small, 2);
      }
      for (String kind : List.of("WHERE", "NOT")) {
        taken(kind + " " + a, Scenes::conditionOnTop, kind.equals("NOT") ? 2 : 1);
      }
      for (String kind : TAKING_CD) {
        taken(kind + " " + a, () -> Scenes.with(Scenes.noQuery(), "TAG 1, TAG 2"), 1);
      }
    }
  }

  private void kinds() {
    bounds.sentence("Promise 13", "kind is not 0 to 15, or a is not in the range named: -1");
    bounds.due("token(0, 0)", Scenes.small().token(0, 0), 4);
    bounds.due("token(15, 0)", Scenes.small().token(15, 0), 2);
    bounds.refusedBeside("token, kind", Scenes::small, (d, kind) -> d.token(kind, 1), 0, 15, -1);
    bounds.refusedBeside("token on an empty query, kind", Scenes::noQuery, (d, kind) -> d.token(kind, 1), 0, 15, -1);
    for (String token : BESIDE_THEIR_RANGE) {
      refused(token, Scenes::pathOnTop, -1);
    }
  }

  private void kindAndNumberAheadOfAll() {
    bounds.sentence("Promise 13", "kind is not 0 to 15, or a is not in the range named: -1");
    for (String token : BESIDE_THEIR_RANGE) {
      refused(token, Scenes::twentyFourTokens, -1);
      refused(token, Scenes::noQuery, -1);
      refused(token, Scenes::eightEntries, -1);
    }
    for (int kind : new int[] {-1, 16}) {
      bounds.unchanged("token(" + kind + ", 0)", Scenes::twentyFourTokens, d -> d.token(kind, 0), -1);
      bounds.unchanged("token(" + kind + ", 0)", Scenes::eightEntries, d -> d.token(kind, 0), -1);
    }
  }

  private void twentyFourTokens() {
    bounds.sentence(
        "Promise 13",
        "24 tokens have been put since the query was last empty by clearQuery (or from the beginning): -2");
    DocumentPaths d = new DocumentPaths();
    bounds.due("token 1", Scenes.put(d, "AXIS 0"), 1);
    for (int i = 2; i <= 24; i++) {
      bounds.due("token " + i, Scenes.put(d, "TURN"), 1);
    }
    bounds.due("token 25", Scenes.put(d, "TURN"), -2);
    d.add(0, 0, 0);
    d.watch(0, 0);
    bounds.due("token 25, after an edit and watch", Scenes.put(d, "TURN"), -2);
    for (String token : TAKING_P) {
      refused(token, Scenes::twentyFourTokens, -2);
      refused(token, Scenes::twentyFourTokensOfOne, -2);
    }
    for (String token : TAKING_PQ) {
      refused(token, Scenes::twentyFourTokens, -2);
    }
    DocumentPaths refusals = Scenes.noQuery();
    for (int i = 0; i < 30; i++) {
      Scenes.put(refusals, "TURN, AXIS 9");
    }
    Scenes.put(refusals, "TAG 1");
    for (int i = 2; i <= 24; i++) {
      bounds.due("token " + i + ", refused ones not counted", Scenes.put(refusals, "NOT"), 1);
    }
    bounds.due("token 25, refused ones not counted", Scenes.put(refusals, "NOT"), -2);
  }

  private void twentyFourTokensSinceClearQuery() {
    bounds.sentence("Promise 13", "since the query was last empty by clearQuery");
    for (int ahead : new int[] {0, 1, 23, 24}) {
      DocumentPaths d = new DocumentPaths();
      for (int i = 0; i < ahead; i++) {
        Scenes.put(d, i == 0 ? "TAG 0" : "NOT");
      }
      d.clearQuery();
      for (int i = 1; i <= 24; i++) {
        bounds.due("token " + i + " after " + ahead, Scenes.put(d, i == 1 ? "TAG 0" : "NOT"), 1);
      }
      bounds.due("token 25 after " + ahead, Scenes.put(d, "NOT"), -2);
    }
  }

  private void twentyFourTokensAheadOfTheRest() {
    bounds.sentence("Promise 13", "24 tokens have been put");
    for (String token : List.of("NOT", "WHERE", "AND", "OR")) {
      refused(token, Scenes::twentyFourTokens, -2);
    }
    for (String token : TAKING_NOTHING) {
      refused(token, Scenes::twentyFourTokens, -2);
    }
  }

  private void tooFewEntries() {
    bounds.sentence(
        "Promise 13", "the stack does not have, at its top, as many entries of the sorts that the kind takes: -3");
    Supplier<DocumentPaths> onePath = () -> Scenes.with(Scenes.noQuery(), "AXIS 1");
    Supplier<DocumentPaths> oneCondition = () -> Scenes.with(Scenes.noQuery(), "TAG 1");
    for (List<String> tokens : List.of(TAKING_P, TAKING_C, TAKING_PQ, TAKING_PC, TAKING_CD)) {
      for (String token : tokens) {
        refused(token, Scenes::noQuery, -3);
      }
    }
    for (String token : TAKING_PQ) {
      refused(token, onePath, -3);
      taken(token, () -> Scenes.with(onePath.get(), "AXIS 1"), 1);
    }
    for (String token : TAKING_CD) {
      refused(token, oneCondition, -3);
      taken(token, () -> Scenes.with(oneCondition.get(), "TAG 1"), 1);
    }
    refused("WHERE", oneCondition, -3);
    taken("WHERE", () -> Scenes.with(onePath.get(), "TAG 1"), 1);
    for (String token : TAKING_P) {
      taken(token, onePath, 1);
    }
    taken("NOT", oneCondition, 1);
  }

  private void entriesOfOtherSorts() {
    bounds.sentence("Promise 13", "at its top, as many entries of the sorts that the kind takes: -3");
    List<String> stacks =
        List.of("P", "C", "PP", "PC", "CP", "CC", "PPP", "PPC", "PCP", "PCC", "CPP", "CPC", "CCP", "CCC");
    for (String stack : stacks) {
      Supplier<DocumentPaths> scene = () -> Scenes.with(Scenes.noQuery(), tokensFor(stack));
      fits(TAKING_P, "P", stack, scene);
      fits(TAKING_C, "C", stack, scene);
      fits(TAKING_PQ, "PP", stack, scene);
      fits(TAKING_PC, "PC", stack, scene);
      fits(TAKING_CD, "CC", stack, scene);
    }
    for (String token : List.of("TURN", "NTH 1", "HAS 1", "JOIN", "MATCH", "AND", "OR")) {
      refused(token, Scenes::eightEntries, -3);
    }
  }

  private static String tokensFor(String stack) {
    return stack.replace("P", "AXIS 1, ").replace("C", "TAG 1, ").replaceAll(", $", "");
  }

  private void fits(List<String> tokens, String takes, String stack, Supplier<DocumentPaths> scene) {
    for (String token : tokens) {
      if (stack.endsWith(takes)) {
        taken(token, scene, stack.length() - takes.length() + 1);
      } else {
        refused(token, scene, -3);
      }
    }
  }

  private void eightEntries() {
    bounds.sentence("Promise 13", "the kind takes nothing and the stack has 8 entries: -4");
    Supplier<DocumentPaths> seven = () -> Scenes.with(Scenes.eightEntries(), "WHERE");
    for (String token : TAKING_NOTHING) {
      taken(token, seven, 8);
      refused(token, Scenes::eightEntries, -4);
    }
    taken("NOT", Scenes::eightEntries, 8);
    taken("WHERE", Scenes::eightEntries, 7);
    Supplier<DocumentPaths> paths = () -> Scenes.with(seven.get(), "AXIS 1");
    for (String token : TAKING_P) {
      taken(token, paths, 8);
    }
    for (String token : TAKING_PQ) {
      taken(token, paths, 7);
    }
    for (String token : TAKING_NOTHING) {
      refused(token, paths, -4);
    }
  }

  private void answer() {
    bounds.sentence("Promise 13", "Else answers how many entries the stack has then");
    DocumentPaths d = new DocumentPaths();
    for (int entries = 1; entries <= 8; entries++) {
      bounds.due("AXIS 0", Scenes.put(d, "AXIS 0"), entries);
    }
    bounds.due("TURN", Scenes.put(d, "TURN"), 8);
    for (int entries = 7; entries >= 1; entries--) {
      bounds.due("JOIN", Scenes.put(d, "JOIN"), entries);
    }
    bounds.due("HAS 1", Scenes.put(d, "HAS 1"), 1);
    bounds.due("NOT", Scenes.put(d, "NOT"), 1);
    bounds.due("LEAST 0", Scenes.put(d, "LEAST 0"), 2);
    bounds.due("AND", Scenes.put(d, "AND"), 1);
  }

  private void clearQuery() {
    bounds.sentence("Promise 14", "The stack becomes empty, and 24 tokens may be put again");
    for (Supplier<DocumentPaths> scene :
        List.<Supplier<DocumentPaths>>of(
            Scenes::noQuery, Scenes::small, Scenes::conditionOnTop, Scenes::eightEntries, Scenes::twentyFourTokens)) {
      DocumentPaths d = scene.get();
      d.clearQuery();
      bounds.due("pairs()", d.pairs(), -1);
      bounds.due("holders()", d.holders(), -1);
      bounds.due("same()", d.same(), -1);
      bounds.due("TURN", Scenes.put(d, "TURN"), -3);
      bounds.due("NOT", Scenes.put(d, "NOT"), -3);
      for (int i = 1; i <= 24; i++) {
        bounds.due("token " + i, Scenes.put(d, i == 1 ? "AXIS 3" : "TURN"), 1);
      }
      bounds.due("token 25", Scenes.put(d, "TURN"), -2);
      bounds.alike("the tree", View.TREE.of(d), View.TREE.of(scene.get()));
      bounds.alike("the watches", View.WATCHES.of(d), View.WATCHES.of(scene.get()));
    }
    bounds.unchanged("clearQuery() on an empty query", Scenes::noQuery, DocumentPaths::clearQuery, 0);
  }

  private void clearQueryAnswer() {
    bounds.sentence("Promise 14", "Answers how many entries it had");
    for (int entries = 0; entries <= 8; entries++) {
      DocumentPaths d = Scenes.noQuery();
      for (int i = 0; i < entries; i++) {
        Scenes.put(d, i % 2 == 0 ? "AXIS 1" : "TAG 1");
      }
      bounds.due("clearQuery()", d.clearQuery(), entries);
      bounds.due("clearQuery() again", d.clearQuery(), 0);
    }
    bounds.due("clearQuery() after 24 tokens", Scenes.twentyFourTokens().clearQuery(), 8);
    bounds.due("clearQuery() of a new object", new DocumentPaths().clearQuery(), 0);
  }
}
