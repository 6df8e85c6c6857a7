import java.util.List;

/** The sentences of the document's terms that say what each token kind stands for. */
final class EntryBounds {
  private static final String TERMS = "Terms";
  private static final String NONE = "AXIS 0, AXIS 0, WITHOUT";
  private static final String ALL = "AXIS 1, AXIS 2, EITHER, REPEAT";

  private final Bounds bounds;

  private EntryBounds(Bounds bounds) {
    this.bounds = bounds;
  }

  static void look(Bounds bounds) {
    EntryBounds tests = new EntryBounds(bounds);
    tests.takesNothing();
    tests.axes();
    tests.join();
    tests.either();
    tests.both();
    tests.without();
    tests.turn();
    tests.repeat();
    tests.nthFromTheFirst();
    tests.nthFromTheLast();
    tests.nthOtherwise();
    tests.where();
    tests.tag();
    tests.least();
    tests.has();
    tests.not();
    tests.and();
    tests.or();
    tests.match();
  }

  private static DocumentPaths small(String tokens) {
    return Scenes.with(Trees.small(), tokens);
  }

  private static DocumentPaths wide(String tokens) {
    return Scenes.with(Trees.wide(), tokens);
  }

  private static DocumentPaths deep(String tokens) {
    return Scenes.with(Trees.deep(), tokens);
  }

  private static DocumentPaths lone(String tokens) {
    return Scenes.with(new DocumentPaths(), tokens);
  }

  /** The root with this many children, 1 and on. */
  private static DocumentPaths row(int children, String tokens) {
    DocumentPaths d = new DocumentPaths();
    for (int i = 0; i < children; i++) {
      d.add(0, i, 0);
    }
    return Scenes.with(d, tokens);
  }

  private void selects(String tokens, int node, String want) {
    bounds.alike(tokens + " from " + node, Trees.selection(small(tokens), node), want);
  }

  private void holding(String tokens, String want) {
    bounds.alike(tokens, Trees.holding(small(tokens)), want);
  }

  private void alikeOnSmall(String tokens, String others) {
    bounds.due(tokens + " and " + others, small(tokens + ", " + others).same(), 1);
  }

  private void takesNothing() {
    for (String kind : List.of("AXIS", "TAG", "LEAST")) {
      bounds.sentence(TERMS, kind + " a takes nothing");
      bounds.due("on an empty stack", Scenes.put(new DocumentPaths(), kind + " 1"), 1);
      bounds.due("over a path", Scenes.put(lone("AXIS 0"), kind + " 1"), 2);
      bounds.due("over a condition", Scenes.put(lone("TAG 0"), kind + " 1"), 2);
      bounds.due("over a path and a condition", Scenes.put(lone("AXIS 0, TAG 0"), kind + " 1"), 3);
    }
  }

  /** The pairs of the only node, of 31 children, of a row of 32, of the small tree; then from its nodes 0 to 7. */
  private void axis(int a, String words, int[] pairs, String... from) {
    bounds.sentence(TERMS, words);
    String token = "AXIS " + a;
    bounds.due("pairs() of 1 node", lone(token).pairs(), pairs[0]);
    bounds.due("pairs() of a node and 31 children", wide(token).pairs(), pairs[1]);
    bounds.due("pairs() of 32 nodes, each below the other", deep(token).pairs(), pairs[2]);
    bounds.due("pairs() of the small tree", small(token).pairs(), pairs[3]);
    for (int node = 0; node < from.length; node++) {
      selects(token, node, from[node]);
    }
  }

  private void axes() {
    axis(
        0, "the path of all pairs (x, y) such that, by the number a: 0: y is x", new int[] {1, 32, 32, 8},
        "0", "1", "2", "3", "4", "5", "6", "7");
    axis(1, "1: y is a child of x", new int[] {0, 31, 31, 7}, "1 2 3", "4 5", "", "7", "", "6", "", "");
    axis(2, "2: x is a child of y", new int[] {0, 31, 31, 7}, "", "0", "0", "0", "1", "1", "5", "3");
    axis(3, "3: y is below x", new int[] {0, 31, 496, 12}, "1 4 5 6 2 3 7", "4 5 6", "", "7", "", "6", "", "");
    axis(4, "4: y is above x", new int[] {0, 31, 496, 12}, "", "0", "0", "0", "0 1", "0 1", "0 1 5", "0 3");
    axis(
        5, "5: x and y are children of one node, y at the greater place", new int[] {0, 465, 0, 4},
        "", "2 3", "3", "", "5", "", "", "");
    axis(
        6, "6: the same, y at the lesser place", new int[] {0, 465, 0, 4},
        "", "", "1", "1 2", "", "4", "", "");
    axis(
        7, "7: y is later than x", new int[] {0, 465, 0, 16},
        "", "2 3 7", "3 7", "", "5 6 2 3 7", "2 3 7", "2 3 7", "");
    axis(
        8, "8: y is earlier than x", new int[] {0, 465, 0, 16},
        "", "", "1 4 5 6", "1 4 5 6 2", "", "4", "4", "1 4 5 6 2");
  }

  private void join() {
    bounds.sentence(
        TERMS, "JOIN (P Q) the path of all pairs (x, z) such that for some y (x, y) is in P and (y, z) in Q");
    selects("AXIS 1, AXIS 1, JOIN", 0, "4 5 7");
    selects("AXIS 1, AXIS 1, JOIN", 5, "");
    bounds.due("by several y, a pair counts once", small("AXIS 1, AXIS 2, JOIN").pairs(), 4);
    bounds.due("by 32 y, a pair counts once", wide(ALL + ", " + ALL + ", JOIN").pairs(), 1024);
    bounds.due("no pair in P", small(NONE + ", AXIS 1, JOIN").pairs(), 0);
    bounds.due("no pair in Q", small("AXIS 1, " + NONE + ", JOIN").pairs(), 0);
    alikeOnSmall("AXIS 0, AXIS 7, JOIN", "AXIS 7");
    alikeOnSmall("AXIS 7, AXIS 0, JOIN", "AXIS 7");
    bounds.due("by way of 31", wide("AXIS 5, AXIS 6, JOIN").related(29, 30), 1);
    bounds.due("by way of itself alone", wide("AXIS 0, AXIS 1, JOIN, AXIS 1").same(), 1);
  }

  private void either() {
    bounds.sentence(TERMS, "EITHER (P Q) the path of the pairs that are in P or in Q (or in both)");
    selects("AXIS 1, AXIS 2, EITHER", 1, "0 4 5");
    bounds.due("in both, a pair counts once", small("AXIS 1, AXIS 3, EITHER").pairs(), 12);
    bounds.due("none in both", small("AXIS 1, AXIS 2, EITHER").pairs(), 14);
    alikeOnSmall("AXIS 1, AXIS 1, EITHER", "AXIS 1");
    alikeOnSmall("AXIS 1, " + NONE + ", EITHER", "AXIS 1");
    alikeOnSmall(NONE + ", AXIS 1, EITHER", "AXIS 1");
    bounds.due("none in any", small(NONE + ", " + NONE + ", EITHER").pairs(), 0);
  }

  private void both() {
    bounds.sentence(TERMS, "BOTH (P Q) the path of the pairs that are in P and in Q");
    alikeOnSmall("AXIS 3, AXIS 1, BOTH", "AXIS 1");
    alikeOnSmall("AXIS 1, AXIS 3, BOTH", "AXIS 1");
    alikeOnSmall("AXIS 1, AXIS 1, BOTH", "AXIS 1");
    bounds.due("none in both", small("AXIS 1, AXIS 2, BOTH").pairs(), 0);
    bounds.due("no pair in P", small(NONE + ", AXIS 1, BOTH").pairs(), 0);
    bounds.due("no pair in Q", small("AXIS 1, " + NONE + ", BOTH").pairs(), 0);
  }

  private void without() {
    bounds.sentence(TERMS, "WITHOUT (P Q) the path of the pairs that are in P and not in Q");
    selects("AXIS 3, AXIS 1, WITHOUT", 0, "4 5 6 7");
    bounds.due("all in Q", small("AXIS 1, AXIS 3, WITHOUT").pairs(), 0);
    bounds.due("the same", small("AXIS 7, AXIS 7, WITHOUT").pairs(), 0);
    alikeOnSmall("AXIS 1, AXIS 2, WITHOUT", "AXIS 1");
    alikeOnSmall("AXIS 1, " + NONE + ", WITHOUT", "AXIS 1");
    bounds.due("no pair in P", small(NONE + ", AXIS 1, WITHOUT").pairs(), 0);
    bounds.due("all of 32 but themselves", wide(ALL + ", AXIS 0, WITHOUT").pairs(), 1024 - 32);
  }

  private void turn() {
    bounds.sentence(TERMS, "TURN (P) the path of all pairs (y, x) such that (x, y) is in P");
    alikeOnSmall("AXIS 1, TURN", "AXIS 2");
    alikeOnSmall("AXIS 0, TURN", "AXIS 0");
    alikeOnSmall("AXIS 7, TURN, TURN", "AXIS 7");
    bounds.due("no pair", small(NONE + ", TURN").pairs(), 0);
    bounds.due("31 and 0", wide("AXIS 1, TURN").related(31, 0), 1);
    bounds.due("0 and 31", wide("AXIS 1, TURN").related(0, 31), 0);
    bounds.due("31 and 30", deep("AXIS 1, TURN").related(31, 30), 1);
    bounds.due("all of 32", wide(ALL + ", TURN").pairs(), 1024);
  }

  private void repeat() {
    bounds.sentence(
        TERMS,
        "REPEAT (P) the path of all pairs (x, x), and all pairs (x, y) such that one can come from x to y by one or"
            + " more pairs of P (from x to z1, from z1 to z2, .., to y)");
    alikeOnSmall(NONE + ", REPEAT", "AXIS 0");
    alikeOnSmall("AXIS 0, REPEAT", "AXIS 0");
    alikeOnSmall("AXIS 1, REPEAT", "AXIS 0, AXIS 3, EITHER");
    alikeOnSmall("AXIS 2, REPEAT", "AXIS 0, AXIS 4, EITHER");
    bounds.due("one node", lone("AXIS 1, REPEAT").pairs(), 1);
    bounds.due("by 31 pairs", deep("AXIS 1, REPEAT").related(0, 31), 1);
    bounds.due("by 31 pairs, back", deep("AXIS 2, REPEAT").related(31, 0), 1);
    bounds.due("all on the way", deep("AXIS 1, REPEAT").pairs(), 528);
    bounds.due("not against the pairs", deep("AXIS 1, REPEAT").related(1, 0), 0);
    bounds.due("round and round", deep(ALL).pairs(), 1024);
    bounds.due("from place to place", wide("AXIS 5, NTH 1, REPEAT").related(1, 31), 1);
    bounds.due("all the places behind", wide("AXIS 5, NTH 1, REPEAT").selected(1), 31);
    DocumentPaths cut = Scenes.without(deep("AXIS 1, REPEAT"), 31);
    bounds.due("of 31 nodes that were 32", cut.pairs(), 496);
    // The last child leads to the first one of the greater numbers, against the order of the numbers.
    DocumentPaths zigzag = new DocumentPaths();
    for (int i = 0; i < 31; i++) {
      zigzag.add(0, i % 2 == 0 ? 0 : i, 0);
    }
    Scenes.put(zigzag, "AXIS 5, NTH 1, REPEAT");
    bounds.due("through numbers in no order", zigzag.selected(zigzag.childAt(0, 0)), 31);
  }

  private void nthFromTheFirst() {
    bounds.sentence(
        TERMS,
        "NTH a (P) for every node x, with y1, .., ym being the nodes y with (x, y) in P in document order: the pair"
            + " (x, ya) if a is from 1 to m");
    for (int a = 1; a <= 9; a++) {
      bounds.due("NTH " + a + " of " + a, row(a, "AXIS 1, NTH " + a).select(0, 0), a);
      bounds.due("NTH " + a + " of " + (a + 1), row(a + 1, "AXIS 1, NTH " + a).select(0, 0), a);
      bounds.due("NTH " + a + " of 31", wide("AXIS 1, NTH " + a).select(0, 0), a);
      bounds.due("only that one", wide("AXIS 1, NTH " + a).selected(0), 1);
    }
    selects("AXIS 3, NTH 2", 0, "4");
    selects("AXIS 3, NTH 5", 0, "2");
    selects("AXIS 8, NTH 1", 7, "1");
    bounds.due("for every node", small("AXIS 4, NTH 1").pairs(), 7);
  }

  private void nthFromTheLast() {
    bounds.sentence(TERMS, "the pair (x, y(m + 1 + a)) if a is from -m to -1");
    for (int a = 1; a <= 9; a++) {
      bounds.due("NTH -" + a + " of " + a, row(a, "AXIS 1, NTH -" + a).select(0, 0), 1);
      bounds.due("NTH -" + a + " of " + (a + 1), row(a + 1, "AXIS 1, NTH -" + a).select(0, 0), 2);
      bounds.due("NTH -" + a + " of 31", wide("AXIS 1, NTH -" + a).select(0, 0), 32 - a);
      bounds.due("only that one", wide("AXIS 1, NTH -" + a).selected(0), 1);
    }
    selects("AXIS 3, NTH -1", 0, "7");
    selects("AXIS 8, NTH -1", 7, "2");
    bounds.due("for every node", small("AXIS 4, NTH -1").pairs(), 7);
  }

  private void nthOtherwise() {
    bounds.sentence(TERMS, "no pair of x otherwise");
    for (int a = 1; a <= 9; a++) {
      bounds.due("NTH " + a + " of " + (a - 1), row(a - 1, "AXIS 1, NTH " + a).selected(0), 0);
      bounds.due("NTH -" + a + " of " + (a - 1), row(a - 1, "AXIS 1, NTH -" + a).selected(0), 0);
      bounds.due("NTH " + a + " of none", lone("AXIS 1, NTH " + a).pairs(), 0);
      bounds.due("NTH -" + a + " of none", lone("AXIS 1, NTH -" + a).pairs(), 0);
    }
    bounds.due("but of the others", small("AXIS 1, NTH 2").pairs(), 2);
    bounds.due("but of the others, from the last", small("AXIS 1, NTH -2").pairs(), 2);
  }

  private void where() {
    bounds.sentence(TERMS, "WHERE (P C) the path of the pairs (x, y) of P such that y is in C");
    selects("AXIS 1, TAG 1, WHERE", 0, "1 3");
    selects("AXIS 1, TAG 1, WHERE", 1, "");
    bounds.due("y, not x, is in C", small("AXIS 1, TAG 0, WHERE").pairs(), 0);
    bounds.due("y, not x, is in C, turned", small("AXIS 2, TAG 0, WHERE").pairs(), 3);
    bounds.due("no node in C", small("AXIS 1, TAG 7, WHERE").pairs(), 0);
    bounds.due("no pair in P", small(NONE + ", LEAST -99, WHERE").pairs(), 0);
    alikeOnSmall("AXIS 7, LEAST -99, WHERE", "AXIS 7");
  }

  private void tag() {
    bounds.sentence(TERMS, "the condition of all nodes with the tag a");
    DocumentPaths d = Trees.wide();
    for (int tag = 0; tag <= 7; tag++) {
      d.label(31 - tag, tag);
    }
    for (int tag = 1; tag <= 7; tag++) {
      Scenes.put(d, "TAG " + tag);
      bounds.alike("TAG " + tag, Trees.holding(d), "" + (31 - tag));
      d.clearQuery();
    }
    bounds.due("TAG 0", Scenes.with(d, "TAG 0").holders(), 25);
    holding("TAG 7", "");
    holding("TAG 1", "1 3 6");
  }

  private void least() {
    bounds.sentence(TERMS, "the condition of all nodes whose value is a or more");
    for (int a : new int[] {-99, -98, -1, 0, 1, 98, 99}) {
      DocumentPaths d = lone("LEAST " + a);
      d.mark(0, a);
      bounds.due("value " + a + ", LEAST " + a, d.holders(), 1);
      if (a > -99) {
        d.mark(0, a - 1);
        bounds.due("value " + (a - 1) + ", LEAST " + a, d.holders(), 0);
      }
      if (a < 99) {
        d.mark(0, a + 1);
        bounds.due("value " + (a + 1) + ", LEAST " + a, d.holders(), 1);
      }
      d.mark(0, 99);
      bounds.due("value 99, LEAST " + a, d.holders(), 1);
    }
    holding("LEAST -99", "0 1 2 3 4 5 6 7");
    holding("LEAST 99", "");
  }

  private void has() {
    bounds.sentence(TERMS, "HAS a (P) the condition of all nodes x such that (x, y) is in P for at least a nodes y");
    for (int a = 1; a <= 9; a++) {
      bounds.due("HAS " + a + " of " + (a - 1), row(a - 1, "AXIS 1, HAS " + a).holds(0), 0);
      bounds.due("HAS " + a + " of " + a, row(a, "AXIS 1, HAS " + a).holds(0), 1);
      bounds.due("HAS " + a + " of " + (a + 1), row(a + 1, "AXIS 1, HAS " + a).holds(0), 1);
      bounds.due("HAS " + a + " of 31", wide("AXIS 1, HAS " + a).holders(), 1);
      bounds.due("HAS " + a + " of all 32", wide(ALL + ", HAS " + a).holders(), 32);
    }
    holding("AXIS 1, HAS 1", "0 1 3 5");
    holding("AXIS 2, HAS 1", "1 2 3 4 5 6 7");
    holding(NONE + ", HAS 1", "");
  }

  private void not() {
    bounds.sentence(TERMS, "NOT (C) the condition of all nodes that are not in C");
    holding("TAG 1, NOT", "0 2 4 5 7");
    holding("LEAST -99, NOT", "");
    holding("TAG 7, NOT", "0 1 2 3 4 5 6 7");
    holding("TAG 1, NOT, NOT", "1 3 6");
    bounds.due("none of 32", wide("TAG 1, NOT").holders(), 32);
    bounds.due("all of 32", wide("TAG 0, NOT").holders(), 0);
    bounds.due("only nodes that there are", lone("TAG 1, NOT").holders(), 1);
    bounds.due("only nodes that there are now", Scenes.without(wide("TAG 1, NOT"), 31).holders(), 31);
  }

  private void and() {
    bounds.sentence(TERMS, "AND (C D) the condition of all nodes that are in C and in D");
    holding("TAG 1, LEAST 20, AND", "6");
    holding("LEAST 20, TAG 1, AND", "6");
    holding("TAG 1, TAG 2, AND", "");
    holding("TAG 1, LEAST -99, AND", "1 3 6");
    holding("TAG 7, LEAST -99, AND", "");
    holding("LEAST -99, TAG 7, AND", "");
  }

  private void or() {
    bounds.sentence(TERMS, "OR (C D) the condition of all nodes that are in C or in D (or in both)");
    holding("TAG 1, LEAST 20, OR", "1 2 3 6");
    bounds.due("in both, a node counts once", small("TAG 1, LEAST 20, OR").holders(), 4);
    holding("TAG 0, TAG 2, OR", "0 2 5");
    holding("TAG 7, TAG 2, OR", "2 5");
    holding("TAG 2, TAG 7, OR", "2 5");
    holding("TAG 7, LEAST 99, OR", "");
    bounds.due("all of 32", wide("TAG 0, LEAST 99, OR").holders(), 32);
  }

  private void match() {
    bounds.sentence(
        TERMS,
        "MATCH (P Q) the condition of all nodes x such that there are nodes y and z with the same value (they may be"
            + " one node), (x, y) in P and (x, z) in Q");
    holding("AXIS 0, AXIS 0, MATCH", "0 1 2 3 4 5 6 7");
    holding("AXIS 1, AXIS 1, MATCH", "0 1 3 5");
    holding("AXIS 0, AXIS 7, MATCH", "1 4 6");
    holding("AXIS 7, AXIS 0, MATCH", "1 4 6");
    holding("AXIS 2, AXIS 5, MATCH", "");
    holding(NONE + ", AXIS 0, MATCH", "");
    holding("AXIS 0, " + NONE + ", MATCH", "");
    for (int value : new int[] {-99, 0, 99}) {
      DocumentPaths d = wide("AXIS 0, AXIS 1, MATCH");
      d.mark(0, 50);
      bounds.due("no child with its value", d.holders(), 0);
      d.mark(0, value);
      d.mark(31, value);
      bounds.due("one child with its value, " + value, d.holds(0), 1);
      d.mark(31, value == 99 ? 98 : value + 1);
      bounds.due("a child with the next value", d.holds(0), value == 0 ? 1 : 0);
    }
    DocumentPaths other = lone("AXIS 0, AXIS 1, MATCH");
    other.add(0, 0, 0);
    bounds.due("of two nodes with the value 0", other.holders(), 1);
    other.mark(0, -1);
    other.mark(1, 1);
    bounds.due("of two nodes with -1 and 1", other.holders(), 0);
  }
}
