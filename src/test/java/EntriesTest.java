/** What the token kinds of promise 13 stand for, read by select, pairs and holds. */
public final class EntriesTest {
  private static final Check check = new Check();

  public static void main(String[] args) {
    axes();
    join();
    eitherBothWithout();
    turn();
    repeat();
    nth();
    where();
    tagAndLeast();
    has();
    notAndOr();
    match();
    followTheTree();
    numbersAtTheEnd();
    deepQuery();
    eighthEntry();
    check.end();
  }

  /** Looks at what a path selects from the nodes 0 to 7 of the small tree. */
  private static void paths(String[] want, int... tokens) {
    paths(Trees.small(), want, tokens);
  }

  private static void paths(DocumentPaths d, String[] want, int... tokens) {
    check.due("the entries", Trees.put(d, tokens), 1);
    for (int x = 0; x < want.length; x++) {
      check.alike("the nodes from " + x, Trees.selection(d, x), want[x]);
    }
  }

  private static void condition(String want, int... tokens) {
    DocumentPaths d = Trees.small();
    check.due("the entries", Trees.put(d, tokens), 1);
    check.alike("the nodes", Trees.holding(d), want);
  }

  private static void axes() {
    String[][] want = {
      {"0", "1", "2", "3", "4", "5", "6", "7"},
      {"1 2 3", "4 5", "", "7", "", "6", "", ""},
      {"", "0", "0", "0", "1", "1", "5", "3"},
      {"1 4 5 6 2 3 7", "4 5 6", "", "7", "", "6", "", ""},
      {"", "0", "0", "0", "0 1", "0 1", "0 1 5", "0 3"},
      {"", "2 3", "3", "", "5", "", "", ""},
      {"", "", "1", "1 2", "", "4", "", ""},
      {"", "2 3 7", "3 7", "", "5 6 2 3 7", "2 3 7", "2 3 7", ""},
      {"", "", "1 4 5 6", "1 4 5 6 2", "", "4", "4", "1 4 5 6 2"}
    };
    for (int axis = 0; axis < want.length; axis++) {
      check.about("AXIS " + axis);
      paths(want[axis], DocumentPaths.AXIS, axis);
    }
  }

  private static void join() {
    check.about("JOIN");
    paths(new String[] {"4 5 7", "6", "", "", "", "", "", ""}, 0, 1, 0, 1, DocumentPaths.JOIN, 0);
    paths(new String[] {"", "1 2 3", "1 2 3", "1 2 3", "4 5", "4 5", "6", "7"}, 0, 2, 0, 1, DocumentPaths.JOIN, 0);
    paths(new String[] {"0", "1", "", "3", "", "5", "", ""}, 0, 1, 0, 2, DocumentPaths.JOIN, 0);
    paths(new String[] {"2 3", "5", "", "", "", "", "", ""}, 0, 1, 0, 5, DocumentPaths.JOIN, 0);
    paths(new String[] {"", "7", "7", "", "6", "", "", ""}, 0, 5, 0, 1, DocumentPaths.JOIN, 0);
  }

  private static void eitherBothWithout() {
    check.about("EITHER");
    paths(
        new String[] {"1 2 3", "0 4 5", "0", "0 7", "1", "1 6", "5", "3"}, 0, 1, 0, 2, DocumentPaths.EITHER, 0);
    paths(
        new String[] {"1 4 5 6 2 3 7", "4 5 6", "", "7", "", "6", "", ""}, 0, 1, 0, 3, DocumentPaths.EITHER, 0);
    check.about("BOTH");
    paths(new String[] {"1 2 3", "4 5", "", "7", "", "6", "", ""}, 0, 3, 0, 1, DocumentPaths.BOTH, 0);
    paths(new String[] {"", "2 3", "3", "", "5", "", "", ""}, 0, 7, 0, 5, DocumentPaths.BOTH, 0);
    check.about("WITHOUT");
    paths(new String[] {"4 5 6 7", "6", "", "", "", "", "", ""}, 0, 3, 0, 1, DocumentPaths.WITHOUT, 0);
    paths(new String[] {"", "", "", "", "", "", "", ""}, 0, 1, 0, 3, DocumentPaths.WITHOUT, 0);
    paths(new String[] {"", "7", "7", "", "6 2 3 7", "2 3 7", "2 3 7", ""}, 0, 7, 0, 5, DocumentPaths.WITHOUT, 0);
  }

  private static void turn() {
    check.about("TURN");
    paths(new String[] {"", "0", "0", "0", "1", "1", "5", "3"}, 0, 1, DocumentPaths.TURN, 0);
    paths(new String[] {"", "", "1 4 5 6", "1 4 5 6 2", "", "4", "4", "1 4 5 6 2"}, 0, 7, DocumentPaths.TURN, 0);
    paths(new String[] {"", "2 3", "3", "", "5", "", "", ""}, 0, 5, DocumentPaths.TURN, 0, DocumentPaths.TURN, 0);
    paths(new String[] {"0", "1", "2", "3", "4", "5", "6", "7"}, 0, 0, DocumentPaths.TURN, 0);
  }

  private static void repeat() {
    check.about("REPEAT");
    paths(
        new String[] {"0 1 4 5 6 2 3 7", "1 4 5 6", "2", "3 7", "4", "5 6", "6", "7"},
        0, 1, DocumentPaths.REPEAT, 0);
    paths(
        new String[] {"0", "0 1", "0 2", "0 3", "0 1 4", "0 1 5", "0 1 5 6", "0 3 7"},
        0, 2, DocumentPaths.REPEAT, 0);
    paths(
        new String[] {"0 4 5 7", "1 6", "2", "3", "4", "5", "6", "7"},
        0, 1, 0, 1, DocumentPaths.JOIN, 0, DocumentPaths.REPEAT, 0);
    String all = "0 1 4 5 6 2 3 7";
    paths(
        new String[] {all, all, all, all, all, all, all, all},
        0, 1, 0, 2, DocumentPaths.EITHER, 0, DocumentPaths.REPEAT, 0);
    check.about("REPEAT of no pairs");
    paths(
        new String[] {"0", "1", "2", "3", "4", "5", "6", "7"},
        0, 0, 0, 0, DocumentPaths.WITHOUT, 0, DocumentPaths.REPEAT, 0);
    check.about("REPEAT along 32 nodes");
    DocumentPaths deep = Trees.deep();
    Trees.put(deep, 0, 1, DocumentPaths.REPEAT, 0);
    check.due("pairs()", deep.pairs(), 32 * 33 / 2);
    check.due("related(0, 31)", deep.related(0, 31), 1);
    check.about("REPEAT has the present nodes alone");
    deep.remove(20);
    check.due("pairs()", deep.pairs(), 20 * 21 / 2);
  }

  private static void nth() {
    check.about("NTH");
    String[] empty = {"", "", "", "", "", "", "", ""};
    paths(new String[] {"1", "4", "", "7", "", "6", "", ""}, 0, 1, DocumentPaths.NTH, 1);
    paths(new String[] {"2", "5", "", "", "", "", "", ""}, 0, 1, DocumentPaths.NTH, 2);
    paths(new String[] {"3", "", "", "", "", "", "", ""}, 0, 1, DocumentPaths.NTH, 3);
    paths(empty, 0, 1, DocumentPaths.NTH, 4);
    paths(new String[] {"3", "5", "", "7", "", "6", "", ""}, 0, 1, DocumentPaths.NTH, -1);
    paths(new String[] {"2", "4", "", "", "", "", "", ""}, 0, 1, DocumentPaths.NTH, -2);
    paths(new String[] {"1", "", "", "", "", "", "", ""}, 0, 1, DocumentPaths.NTH, -3);
    paths(empty, 0, 1, DocumentPaths.NTH, -4);
    paths(empty, 0, 1, DocumentPaths.NTH, 9);
    paths(empty, 0, 1, DocumentPaths.NTH, -9);
    check.about("NTH, always in document order");
    paths(new String[] {"", "0", "0", "0", "0", "0", "0", "0"}, 0, 4, DocumentPaths.NTH, 1);
    paths(new String[] {"", "", "6", "2", "", "4", "4", "2"}, 0, 8, DocumentPaths.NTH, -1);
    check.about("NTH of 31");
    DocumentPaths wide = Trees.wide();
    Trees.put(wide, 0, 1, DocumentPaths.NTH, -9);
    check.due("select(0, 0)", wide.select(0, 0), 23);
  }

  private static void where() {
    check.about("WHERE");
    paths(new String[] {"1 3", "", "", "", "", "6", "", ""}, 0, 1, DocumentPaths.TAG, 1, DocumentPaths.WHERE, 0);
    paths(new String[] {"1 6 2 3", "6", "", "", "", "6", "", ""}, 0, 3, DocumentPaths.LEAST, 10, DocumentPaths.WHERE, 0);
    paths(new String[] {"", "", "", "", "", "", "", ""}, 0, 3, DocumentPaths.TAG, 7, DocumentPaths.WHERE, 0);
  }

  private static void tagAndLeast() {
    check.about("TAG");
    condition("0", DocumentPaths.TAG, 0);
    condition("1 3 6", DocumentPaths.TAG, 1);
    condition("2 5", DocumentPaths.TAG, 2);
    condition("4 7", DocumentPaths.TAG, 3);
    condition("", DocumentPaths.TAG, 7);
    check.about("LEAST");
    condition("0 1 2 3 4 5 6 7", DocumentPaths.LEAST, -99);
    condition("0 1 2 3 4 5 6 7", DocumentPaths.LEAST, -5);
    condition("0 1 2 3 5 6", DocumentPaths.LEAST, -4);
    condition("0 1 2 3 5 6", DocumentPaths.LEAST, 0);
    condition("1 2 3 6", DocumentPaths.LEAST, 10);
    condition("2 6", DocumentPaths.LEAST, 11);
    condition("", DocumentPaths.LEAST, 99);
  }

  private static void has() {
    check.about("HAS");
    condition("0 1 3 5", 0, 1, DocumentPaths.HAS, 1);
    condition("0 1", 0, 1, DocumentPaths.HAS, 2);
    condition("0", 0, 1, DocumentPaths.HAS, 3);
    condition("", 0, 1, DocumentPaths.HAS, 4);
    condition("0", 0, 3, DocumentPaths.HAS, 7);
    condition("", 0, 3, DocumentPaths.HAS, 8);
    condition("4", 0, 7, DocumentPaths.HAS, 5);
    DocumentPaths wide = Trees.wide();
    Trees.put(wide, 0, 5, DocumentPaths.HAS, 9);
    check.due("holders() of 31 in a row", wide.holders(), 22);
  }

  private static void notAndOr() {
    check.about("NOT");
    condition("0 2 4 5 7", DocumentPaths.TAG, 1, DocumentPaths.NOT, 0);
    condition("1 3 6", DocumentPaths.TAG, 1, DocumentPaths.NOT, 0, DocumentPaths.NOT, 0);
    condition("0 1 2 3 4 5 6 7", DocumentPaths.TAG, 7, DocumentPaths.NOT, 0);
    condition("", DocumentPaths.LEAST, -99, DocumentPaths.NOT, 0);
    check.about("AND");
    condition("6", DocumentPaths.TAG, 1, DocumentPaths.LEAST, 20, DocumentPaths.AND, 0);
    condition("", DocumentPaths.TAG, 1, DocumentPaths.TAG, 2, DocumentPaths.AND, 0);
    check.about("OR");
    condition("1 2 3 6", DocumentPaths.TAG, 1, DocumentPaths.LEAST, 20, DocumentPaths.OR, 0);
    condition("0 1 3 6", DocumentPaths.TAG, 0, DocumentPaths.TAG, 1, DocumentPaths.OR, 0);
  }

  private static void match() {
    check.about("MATCH");
    condition("0", 0, 1, 0, 3, 0, 1, DocumentPaths.WITHOUT, 0, DocumentPaths.MATCH, 0);
    condition("0 1 3 5", 0, 1, 0, 1, DocumentPaths.MATCH, 0);
    condition("0 1 2 3 4 5 6 7", 0, 0, 0, 0, DocumentPaths.MATCH, 0);
    condition("1", 0, 1, 0, 2, DocumentPaths.MATCH, 0);
    condition("", 0, 2, 0, 5, DocumentPaths.MATCH, 0);
    condition("1", 0, 0, 0, 5, DocumentPaths.MATCH, 0);
    condition("3", 0, 0, 0, 6, DocumentPaths.MATCH, 0);
    condition("1 4 6", 0, 0, 0, 7, DocumentPaths.MATCH, 0);
    condition("1 4 6", 0, 7, 0, 0, DocumentPaths.MATCH, 0);
    condition("", 0, 0, 0, 0, DocumentPaths.WITHOUT, 0, 0, 0, DocumentPaths.MATCH, 0);
  }

  private static void followTheTree() {
    check.about("entries follow the tree");
    DocumentPaths d = Trees.small();
    Trees.put(d, DocumentPaths.TAG, 2, 0, 3, DocumentPaths.LEAST, 10, DocumentPaths.WHERE, 0);
    check.alike("at first", Trees.selection(d, 0), "1 6 2 3");
    d.mark(7, 10);
    check.alike("after mark", Trees.selection(d, 0), "1 6 2 3 7");
    d.move(3, 0, 0);
    check.alike("after move", Trees.selection(d, 0), "3 7 1 6 2");
    d.remove(1);
    check.alike("after remove", Trees.selection(d, 0), "3 7 2");
    check.due("a node that was", d.select(1, 0), -1);
    d.copy(7, 2, 0);
    check.alike("after copy", Trees.selection(d, 0), "3 7 2 1");
    d.add(2, 0, 2);
    check.alike("after add", Trees.selection(d, 0), "3 7 2 1");
    Trees.put(d, DocumentPaths.HAS, 9, DocumentPaths.OR, 0);
    check.alike("the entry below", Trees.holding(d), "2 4");
    d.label(0, 2);
    check.alike("after label", Trees.holding(d), "0 2 4");
  }

  private static void numbersAtTheEnd() {
    check.about("node 31");
    DocumentPaths d = Trees.wide();
    Trees.put(d, 0, 1);
    check.due("select(0, 30)", d.select(0, 30), 31);
    check.due("related(0, 31)", d.related(0, 31), 1);
    check.due("related(31, 0)", d.related(31, 0), 0);
    d.token(DocumentPaths.TURN, 0);
    check.due("turned, related(31, 0)", d.related(31, 0), 1);
    check.due("turned, related(0, 31)", d.related(0, 31), 0);
    d.label(31, 5);
    Trees.put(d, DocumentPaths.TAG, 5);
    check.due("holds(31)", d.holds(31), 1);
    check.due("holders()", d.holders(), 1);
    d.token(DocumentPaths.NOT, 0);
    check.due("holds(31), not", d.holds(31), 0);
    check.due("holders(), not", d.holders(), 31);
    d.clearQuery();
    Trees.put(d, 0, 0, DocumentPaths.HAS, 1);
    check.due("holders(), all", d.holders(), 32);
    d.clearQuery();
    Trees.put(d, 0, 7, 0, 8, DocumentPaths.EITHER, 0);
    check.due("pairs()", d.pairs(), 31 * 30);
    check.due("selected(31)", d.selected(31), 30);
  }

  private static void deepQuery() {
    check.about("8 entries at once");
    DocumentPaths d = Trees.small();
    for (int axis = 0; axis <= 7; axis++) {
      d.token(DocumentPaths.AXIS, axis);
    }
    for (int i = 0; i < 7; i++) {
      check.due("EITHER", d.token(DocumentPaths.EITHER, 0), 7 - i);
    }
    // Of 64 pairs 16 are earlier ones; 4 of these stand in one row and come in by axis 6.
    check.due("pairs()", d.pairs(), 64 - 16 + 4);
  }

  /** Each kind makes the eighth entry of a tree of 32 nodes, where no room is left beyond it. */
  private static void eighthEntry() {
    check.about("the eighth entry, of 32 nodes");
    eighthPath(31, 0, 1);
    eighthPath(31, 0, 1, DocumentPaths.TURN, 0);
    eighthPath(63, 0, 1, DocumentPaths.REPEAT, 0);
    eighthPath(1, 0, 1, DocumentPaths.NTH, -1);
    eighthCondition(32, DocumentPaths.TAG, 0);
    eighthCondition(32, DocumentPaths.LEAST, 0);
    eighthCondition(1, 0, 1, DocumentPaths.HAS, 9);
    eighthCondition(0, DocumentPaths.TAG, 0, DocumentPaths.NOT, 0);
    check.about("the seventh entry, made of the eighth, of 32 nodes");
    seventhPath(31 * 31, 0, 2, 0, 1, DocumentPaths.JOIN, 0);
    seventhPath(62, 0, 1, 0, 2, DocumentPaths.EITHER, 0);
    seventhPath(31, 0, 1, 0, 3, DocumentPaths.BOTH, 0);
    seventhPath(0, 0, 1, 0, 3, DocumentPaths.WITHOUT, 0);
    seventhPath(31, 0, 1, DocumentPaths.TAG, 0, DocumentPaths.WHERE, 0);
    DocumentPaths d = full(6);
    check.due("MATCH", Trees.put(d, 0, 0, 0, 1, DocumentPaths.MATCH, 0), 7);
    check.due("holders()", d.holders(), 1);
  }

  private static DocumentPaths full(int entries) {
    DocumentPaths d = Trees.wide();
    for (int i = 0; i < entries; i++) {
      d.token(DocumentPaths.AXIS, 0);
    }
    return d;
  }

  private static void eighthPath(int pairs, int... tokens) {
    DocumentPaths d = full(7);
    check.due("the entries", Trees.put(d, tokens), 8);
    check.due("pairs()", d.pairs(), pairs);
  }

  private static void seventhPath(int pairs, int... tokens) {
    DocumentPaths d = full(6);
    check.due("the entries", Trees.put(d, tokens), 7);
    check.due("pairs()", d.pairs(), pairs);
  }

  private static void eighthCondition(int nodes, int... tokens) {
    DocumentPaths d = full(7);
    check.due("the entries", Trees.put(d, tokens), 8);
    check.due("holders()", d.holders(), nodes);
  }
}
