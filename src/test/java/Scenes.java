/** Objects with a tree, a query and watches that are all in use, so that a change of any of them shows. */
final class Scenes {
  private static final String[] KINDS = {
    "AXIS", "JOIN", "EITHER", "BOTH", "WITHOUT", "TURN", "REPEAT", "NTH",
    "WHERE", "TAG", "LEAST", "HAS", "NOT", "AND", "OR", "MATCH"
  };

  private Scenes() {}

  /** Puts tokens that are written as in "AXIS 3, LEAST 50, WHERE"; answers the last answer. */
  static int put(DocumentPaths d, String tokens) {
    int answer = 0;
    for (String token : tokens.split(", ")) {
      String[] parts = token.split(" ");
      answer = d.token(kindOf(parts[0]), parts.length > 1 ? Integer.parseInt(parts[1]) : 0);
    }
    return answer;
  }

  static int kindOf(String name) {
    for (int kind = 0; kind < KINDS.length; kind++) {
      if (KINDS[kind].equals(name)) {
        return kind;
      }
    }
    throw new IllegalArgumentException(name);
  }

  static DocumentPaths with(DocumentPaths d, String tokens) {
    put(d, tokens);
    return d;
  }

  static DocumentPaths without(DocumentPaths d, int node) {
    d.remove(node);
    return d;
  }

  /**
   * Watch 0 has gained a node by the latest edit and watch 1 has lost one, watch 2 was never set; the query
   * has a condition and two paths above it.
   */
  static DocumentPaths used(DocumentPaths d) {
    put(d, "AXIS 0, AXIS 3, EITHER, LEAST 50, WHERE");
    d.watch(0, 0);
    d.clearQuery();
    put(d, "AXIS 0, AXIS 3, EITHER, LEAST 50, NOT, WHERE");
    d.watch(1, 0);
    d.clearQuery();
    d.mark(0, 60);
    put(d, "TAG 0, AXIS 1, AXIS 3");
    return d;
  }

  /** The small tree: the numbers 8 to 31 are free. */
  static DocumentPaths small() {
    return used(Trees.small());
  }

  /** Only the root. */
  static DocumentPaths lone() {
    return used(new DocumentPaths());
  }

  /** The root with 31 children: no number is free. */
  static DocumentPaths wide() {
    return used(Trees.wide());
  }

  /** 32 nodes, each the only child of the one before: no number is free. */
  static DocumentPaths deep() {
    return used(Trees.deep());
  }

  /** The first 17 nodes of the deep tree. */
  static DocumentPaths seventeen() {
    return used(without(Trees.deep(), 17));
  }

  /** The small tree with a query that has no entry. */
  static DocumentPaths noQuery() {
    DocumentPaths d = small();
    d.clearQuery();
    return d;
  }

  /** The small tree with a condition at the top, over a path. */
  static DocumentPaths conditionOnTop() {
    return with(noQuery(), "AXIS 3, TAG 1");
  }

  /** The small tree with a path at the top, over a condition. */
  static DocumentPaths pathOnTop() {
    return with(noQuery(), "TAG 1, AXIS 3");
  }

  /** The small tree with 8 entries: paths at the even places from the lowest on, conditions at the others. */
  static DocumentPaths eightEntries() {
    return with(noQuery(), "AXIS 1, TAG 1, AXIS 3, LEAST 10, AXIS 5, TAG 2, AXIS 7, LEAST -5");
  }

  /** The small tree with 8 entries of paths, made by 24 tokens. */
  static DocumentPaths twentyFourTokens() {
    DocumentPaths d = with(noQuery(), "AXIS 1, AXIS 2, AXIS 3, AXIS 4, AXIS 5, AXIS 6, AXIS 7, AXIS 8");
    for (int i = 8; i < 24; i++) {
      d.token(DocumentPaths.TURN, 0);
    }
    return d;
  }

  /** The small tree with one entry, made by 24 tokens. */
  static DocumentPaths twentyFourTokensOfOne() {
    DocumentPaths d = with(noQuery(), "AXIS 3");
    for (int i = 1; i < 24; i++) {
      d.token(DocumentPaths.TURN, 0);
    }
    return d;
  }

  /** The small tree with watch 2 set to node 5 (and what is above it), which is then taken out. */
  static DocumentPaths endedWatch() {
    DocumentPaths d = with(noQuery(), "AXIS 4");
    d.watch(2, 5);
    d.remove(5);
    return d;
  }
}
