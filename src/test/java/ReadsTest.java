/** Promises 8 to 12: nodes, nodeAt, childAt, tagOf, valueOf. */
public final class ReadsTest {
  private static final Check check = new Check();

  public static void main(String[] args) {
    nodes();
    nodeAt();
    childAt();
    tagOf();
    valueOf();
    check.end();
  }

  private static void nodes() {
    check.about("promise 8");
    DocumentPaths d = new DocumentPaths();
    check.due("a new object", d.nodes(), 1);
    d.add(0, 0, 0);
    check.due("after add", d.nodes(), 2);
    d.add(9, 0, 0);
    check.due("after a refused add", d.nodes(), 2);
    d.copy(0, 0, 0);
    check.due("after copy", d.nodes(), 4);
    d.move(1, 2, 0);
    check.due("after move", d.nodes(), 4);
    d.remove(2);
    check.due("after remove", d.nodes(), 1);
    check.due("a full tree", Trees.wide().nodes(), 32);
  }

  private static void nodeAt() {
    check.about("promise 9");
    DocumentPaths d = Trees.small();
    int[] order = {0, 1, 4, 5, 6, 2, 3, 7};
    for (int rank = 0; rank < order.length; rank++) {
      check.due("nodeAt(" + rank + ")", d.nodeAt(rank), order[rank]);
    }
    for (int rank : new int[] {8, -1, 31, 32, Integer.MIN_VALUE, Integer.MAX_VALUE}) {
      check.due("nodeAt(" + rank + ")", d.nodeAt(rank), -1);
    }
    DocumentPaths full = Trees.deep();
    check.due("the last of 32", full.nodeAt(31), 31);
    check.due("behind the last of 32", full.nodeAt(32), -1);
    full.remove(31);
    check.due("a rank that was", full.nodeAt(31), -1);
  }

  private static void childAt() {
    check.about("promise 10");
    DocumentPaths d = Trees.small();
    check.due("childAt(0, 0)", d.childAt(0, 0), 1);
    check.due("childAt(0, 1)", d.childAt(0, 1), 2);
    check.due("childAt(0, 2)", d.childAt(0, 2), 3);
    check.due("childAt(1, 1)", d.childAt(1, 1), 5);
    check.due("childAt(3, 0)", d.childAt(3, 0), 7);
    check.due("behind the last", d.childAt(0, 3), -1);
    check.due("of a leaf", d.childAt(2, 0), -1);
    check.due("place -1", d.childAt(0, -1), -1);
    check.due("place least", d.childAt(0, Integer.MIN_VALUE), -1);
    check.due("place greatest", d.childAt(0, Integer.MAX_VALUE), -1);
    check.due("no node", d.childAt(8, 0), -1);
    for (int node : Trees.WRONG_NODES) {
      check.due("childAt " + node, d.childAt(node, 0), -1);
    }
  }

  private static void tagOf() {
    check.about("promise 11");
    DocumentPaths d = Trees.small();
    int[] tags = {0, 1, 2, 1, 3, 2, 1, 3, -1};
    for (int node = 0; node < tags.length; node++) {
      check.due("tagOf(" + node + ")", d.tagOf(node), tags[node]);
    }
    for (int node : Trees.WRONG_NODES) {
      check.due("tagOf(" + node + ")", d.tagOf(node), -1);
    }
  }

  private static void valueOf() {
    check.about("promise 12");
    DocumentPaths d = Trees.small();
    int[] values = {0, 10, 20, 10, -5, 0, 20, -5, 100};
    for (int node = 0; node < values.length; node++) {
      check.due("valueOf(" + node + ")", d.valueOf(node), values[node]);
    }
    for (int node : Trees.WRONG_NODES) {
      check.due("valueOf(" + node + ")", d.valueOf(node), 100);
    }
    d.remove(7);
    check.due("a node that was", d.valueOf(7), 100);
  }
}
