/** Promises 15 to 21: select, selected, related, pairs, holds, holders, same. */
public final class AnswersTest {
  private static final Check check = new Check();

  public static void main(String[] args) {
    select();
    selected();
    related();
    pairs();
    holds();
    holders();
    same();
    changeNothing();
    check.end();
  }

  private static DocumentPaths with(int... tokens) {
    DocumentPaths d = Trees.small();
    Trees.put(d, tokens);
    return d;
  }

  private static void select() {
    check.about("promise 15");
    DocumentPaths d = with(DocumentPaths.TAG, 1, DocumentPaths.AXIS, 3);
    int[] below = {1, 4, 5, 6, 2, 3, 7};
    for (int k = 0; k < below.length; k++) {
      check.due("select(0, " + k + ")", d.select(0, k), below[k]);
    }
    check.due("select(5, 0)", d.select(5, 0), 6);
    for (int k : new int[] {7, -1, 32, Integer.MIN_VALUE, Integer.MAX_VALUE}) {
      check.due("select(0, " + k + ")", d.select(0, k), -2);
    }
    check.due("nothing selected", d.select(2, 0), -2);
    for (int node : Trees.WRONG_NODES) {
      check.due("select(" + node + ", -1)", d.select(node, -1), -1);
    }
    check.due("no node", d.select(8, 0), -1);
    check.due("an empty query", Trees.small().select(0, -1), -1);
    check.due("a condition at the top", with(DocumentPaths.AXIS, 3, DocumentPaths.TAG, 1).select(0, -1), -1);
  }

  private static void selected() {
    check.about("promise 16");
    DocumentPaths d = with(DocumentPaths.TAG, 1, DocumentPaths.AXIS, 3);
    int[] counts = {7, 3, 0, 1, 0, 1, 0, 0, -1};
    for (int node = 0; node < counts.length; node++) {
      check.due("selected(" + node + ")", d.selected(node), counts[node]);
    }
    for (int node : Trees.WRONG_NODES) {
      check.due("selected(" + node + ")", d.selected(node), -1);
    }
    check.due("an empty query", Trees.small().selected(0), -1);
    check.due("a condition at the top", with(DocumentPaths.AXIS, 3, DocumentPaths.TAG, 1).selected(0), -1);
  }

  private static void related() {
    check.about("promise 17");
    DocumentPaths d = with(DocumentPaths.AXIS, 0, DocumentPaths.AXIS, 1);
    check.due("related(0, 3)", d.related(0, 3), 1);
    check.due("related(3, 0)", d.related(3, 0), 0);
    check.due("related(0, 4)", d.related(0, 4), 0);
    check.due("related(0, 0)", d.related(0, 0), 0);
    check.due("related(1, 5)", d.related(1, 5), 1);
    check.due("no node x", d.related(8, 0), -1);
    check.due("no node y", d.related(0, 8), -1);
    for (int node : Trees.WRONG_NODES) {
      check.due("related(" + node + ", 0)", d.related(node, 0), -1);
      check.due("related(0, " + node + ")", d.related(0, node), -1);
    }
    check.due("an empty query", Trees.small().related(0, 1), -1);
    check.due("a condition at the top", with(DocumentPaths.AXIS, 3, DocumentPaths.TAG, 1).related(0, 1), -1);
  }

  private static void pairs() {
    check.about("promise 18");
    int[] counts = {8, 7, 7, 12, 12, 4, 4, 16, 16};
    for (int axis = 0; axis < counts.length; axis++) {
      check.due("AXIS " + axis, with(DocumentPaths.AXIS, axis).pairs(), counts[axis]);
    }
    DocumentPaths wide = Trees.wide();
    Trees.put(wide, 0, 1, 0, 2, DocumentPaths.EITHER, 0, DocumentPaths.REPEAT, 0);
    check.due("all pairs of 32 nodes", wide.pairs(), 1024);
    check.due("no pair", with(0, 0, 0, 1, DocumentPaths.BOTH, 0).pairs(), 0);
    check.due("an empty query", Trees.small().pairs(), -1);
    check.due("a condition at the top", with(DocumentPaths.AXIS, 3, DocumentPaths.TAG, 1).pairs(), -1);
  }

  private static void holds() {
    check.about("promise 19");
    DocumentPaths d = with(DocumentPaths.AXIS, 0, DocumentPaths.TAG, 2);
    int[] want = {0, 0, 1, 0, 0, 1, 0, 0, -1};
    for (int node = 0; node < want.length; node++) {
      check.due("holds(" + node + ")", d.holds(node), want[node]);
    }
    for (int node : Trees.WRONG_NODES) {
      check.due("holds(" + node + ")", d.holds(node), -1);
    }
    check.due("an empty query", Trees.small().holds(0), -1);
    check.due("a path at the top", with(DocumentPaths.TAG, 1, DocumentPaths.AXIS, 0).holds(0), -1);
  }

  private static void holders() {
    check.about("promise 20");
    check.due("TAG 1", with(DocumentPaths.AXIS, 0, DocumentPaths.TAG, 1).holders(), 3);
    check.due("TAG 7", with(DocumentPaths.TAG, 7).holders(), 0);
    check.due("LEAST -99", with(DocumentPaths.LEAST, -99).holders(), 8);
    check.due("an empty query", Trees.small().holders(), -1);
    check.due("a path at the top", with(DocumentPaths.TAG, 1, DocumentPaths.AXIS, 0).holders(), -1);
    DocumentPaths wide = Trees.wide();
    wide.token(DocumentPaths.TAG, 0);
    check.due("32 nodes", wide.holders(), 32);
  }

  private static void same() {
    check.about("promise 21");
    check.due("an empty query", Trees.small().same(), -1);
    check.due("one path", with(DocumentPaths.AXIS, 0).same(), -1);
    check.due("one condition", with(DocumentPaths.TAG, 0).same(), -1);
    check.due("a path and a condition", with(DocumentPaths.AXIS, 0, DocumentPaths.TAG, 0).same(), -1);
    check.due("a condition and a path", with(DocumentPaths.TAG, 0, DocumentPaths.AXIS, 0).same(), -1);
    check.due("the same path", with(0, 1, 0, 2, DocumentPaths.TURN, 0).same(), 1);
    check.due("other paths", with(0, 1, 0, 3).same(), 0);
    check.due("as many pairs, others", with(0, 1, 0, 2).same(), 0);
    check.due("the same condition", with(9, 0, 0, 2, DocumentPaths.HAS, 1, DocumentPaths.NOT, 0).same(), 1);
    check.due("other conditions", with(9, 1, 9, 2).same(), 0);
    check.due("as many nodes, others", with(9, 2, 9, 3).same(), 0);
    check.due("the two topmost of three", with(0, 4, 0, 1, 0, 1).same(), 1);
    check.due("the two topmost of three, others", with(0, 1, 0, 1, 0, 4).same(), 0);
    check.due("conditions above a path", with(0, 1, 9, 1, 9, 1).same(), 1);
    DocumentPaths d = with(0, 1, 0, 3);
    check.due("now not the same", d.same(), 0);
    d.remove(1);
    check.due("node 3 still has 7", d.related(0, 7), 1);
    d.remove(7);
    check.due("now the same", d.same(), 1);
    check.due("all the same but node 0", with(0, 0, 0, 0, 9, 0, 12, 0, DocumentPaths.WHERE, 0).same(), 0);
    DocumentPaths wide = Trees.wide();
    wide.label(31, 1);
    Trees.put(wide, 0, 0, 0, 0, 9, 0, DocumentPaths.WHERE, 0);
    check.due("all the same but node 31", wide.same(), 0);
  }

  private static void changeNothing() {
    check.about("the calls change nothing");
    DocumentPaths d = with(9, 1, 0, 3, 0, 1);
    String before = Trees.picture(d);
    d.watch(1, 0);
    for (int i = 0; i < 2; i++) {
      check.due("select", d.select(0, 1), 2);
      check.due("selected", d.selected(0), 3);
      check.due("related", d.related(0, 1), 1);
      check.due("pairs", d.pairs(), 7);
      check.due("holds", d.holds(0), -1);
      check.due("holders", d.holders(), -1);
      check.due("same", d.same(), 0);
      check.due("watched", d.watched(1, 2), 3);
      check.due("gained", d.gained(1), 0);
      check.due("lost", d.lost(1), 0);
    }
    check.alike("the tree", Trees.picture(d), before);
    check.due("clearQuery()", d.clearQuery(), 3);
  }
}
