/** The sentences of the promises 6 to 12: label, mark, nodes, nodeAt, childAt, tagOf, valueOf. */
final class NodeBounds {
  private final Bounds bounds;

  private NodeBounds(Bounds bounds) {
    this.bounds = bounds;
  }

  static void look(Bounds bounds) {
    NodeBounds tests = new NodeBounds(bounds);
    tests.labelGives();
    tests.labelNode();
    tests.labelTag();
    tests.labelAnswer();
    tests.markGives();
    tests.markNode();
    tests.markValue();
    tests.markAnswer();
    tests.nodes();
    tests.nodeAt();
    tests.nodeAtNone();
    tests.childAt();
    tests.childAtNone();
    tests.tagOf();
    tests.tagOfNone();
    tests.valueOf();
    tests.valueOfNone();
  }

  private void labelGives() {
    bounds.sentence("Promise 6", "Gives a node another tag");
    DocumentPaths d = Trees.small();
    for (int tag : new int[] {7, 0, 5, 5}) {
      d.label(4, tag);
      bounds.due("tagOf(4)", d.tagOf(4), tag);
    }
    bounds.alike(
        "the tree",
        Trees.picture(d),
        "8 0:0/0(1 2 3) 1:1/10(4 5) 4:5/-5() 5:2/0(6) 6:1/20() 2:2/20() 3:1/10(7) 7:3/-5()");
  }

  private void labelNode() {
    bounds.sentence("Promise 6", "There is no such node: -1");
    bounds.range("label a node of 32", Scenes::wide, (d, node) -> d.label(node, 1), 0, 31, -1);
    bounds.range("label a node of 8", Scenes::small, (d, node) -> d.label(node, 1), 0, 7, -1);
    bounds.range("label a node of 1", Scenes::lone, (d, node) -> d.label(node, 1), 0, 0, -1);
    bounds.unchanged("label one taken out", () -> Scenes.without(Scenes.small(), 1), d -> d.label(6, 1), -1);
    bounds.unchanged("-1 ahead of -3, tag too small", Scenes::small, d -> d.label(8, -1), -1);
    bounds.unchanged("-1 ahead of -3, tag too great", Scenes::small, d -> d.label(-1, 8), -1);
  }

  private void labelTag() {
    bounds.sentence("Promise 6", "tag is not 0 to 7: -3");
    bounds.range("label with a tag", Scenes::small, (d, tag) -> d.label(4, tag), 0, 7, -3);
    bounds.range("label the root with a tag", Scenes::lone, (d, tag) -> d.label(0, tag), 0, 7, -3);
    bounds.range("label the last of 32 with a tag", Scenes::wide, (d, tag) -> d.label(31, tag), 0, 7, -3);
  }

  private void labelAnswer() {
    bounds.sentence("Promise 6", "Else answers the tag it had");
    DocumentPaths d = Trees.small();
    bounds.due("label(4, 7)", d.label(4, 7), 3);
    bounds.due("label(4, 7) again", d.label(4, 7), 7);
    bounds.due("label(4, 0)", d.label(4, 0), 7);
    bounds.due("label(4, 0) again", d.label(4, 0), 0);
    bounds.due("label(0, 6)", d.label(0, 6), 0);
  }

  private void markGives() {
    bounds.sentence("Promise 7", "Gives a node another value");
    DocumentPaths d = Trees.small();
    for (int value : new int[] {99, -99, 0, 1, 1}) {
      d.mark(5, value);
      bounds.due("valueOf(5)", d.valueOf(5), value);
    }
    bounds.alike(
        "the tree",
        Trees.picture(d),
        "8 0:0/0(1 2 3) 1:1/10(4 5) 4:3/-5() 5:2/1(6) 6:1/20() 2:2/20() 3:1/10(7) 7:3/-5()");
  }

  private void markNode() {
    bounds.sentence("Promise 7", "There is no such node: -1");
    bounds.range("mark a node of 32", Scenes::wide, (d, node) -> d.mark(node, 1), 0, 31, -1);
    bounds.range("mark a node of 8", Scenes::small, (d, node) -> d.mark(node, 1), 0, 7, -1);
    bounds.range("mark a node of 1", Scenes::lone, (d, node) -> d.mark(node, 1), 0, 0, -1);
    bounds.unchanged("mark one taken out", () -> Scenes.without(Scenes.small(), 1), d -> d.mark(6, 1), -1);
    bounds.unchanged("-1 ahead of -3, value too small", Scenes::small, d -> d.mark(8, -100), -1);
    bounds.unchanged("-1 ahead of -3, value too great", Scenes::small, d -> d.mark(-1, 100), -1);
  }

  private void markValue() {
    bounds.sentence("Promise 7", "value is not -99 to 99: -3");
    bounds.range("mark with a value", Scenes::small, (d, value) -> d.mark(4, value), -99, 99, -3);
    bounds.range("mark the root with a value", Scenes::lone, (d, value) -> d.mark(0, value), -99, 99, -3);
    bounds.range("mark the last of 32 with a value", Scenes::wide, (d, value) -> d.mark(31, value), -99, 99, -3);
  }

  private void markAnswer() {
    bounds.sentence("Promise 7", "Else answers 1 if it had another value, 0 if it had this one");
    DocumentPaths d = Trees.small();
    int[] values = {-5, -4, -4, 99, 99, -99, -99, 99, 0, 0};
    int[] answers = {0, 1, 0, 1, 0, 1, 0, 1, 1, 0};
    for (int i = 0; i < values.length; i++) {
      bounds.due("mark(4, " + values[i] + ")", d.mark(4, values[i]), answers[i]);
    }
    bounds.due("mark(0, 0) of a new object", new DocumentPaths().mark(0, 0), 0);
    bounds.due("mark(8, 0) of a node just added", d.mark(d.add(0, 0, 5), 0), 0);
  }

  private void nodes() {
    bounds.sentence("Promise 8", "How many nodes there are");
    DocumentPaths d = new DocumentPaths();
    for (int count = 1; count < 32; count++) {
      bounds.due("nodes()", d.nodes(), count);
      d.add(0, 0, 0);
    }
    bounds.due("nodes()", d.nodes(), 32);
    d.remove(1);
    bounds.due("nodes() after remove", d.nodes(), 31);
    d.move(2, 3, 0);
    bounds.due("nodes() after move", d.nodes(), 31);
    d.copy(2, 0, 0);
    bounds.due("nodes() after copy", d.nodes(), 32);
    d.label(2, 1);
    d.mark(2, 1);
    bounds.due("nodes() after label and mark", d.nodes(), 32);
    bounds.due("nodes() after remove of all but the root", Scenes.without(Trees.deep(), 1).nodes(), 1);
    bounds.unchanged("nodes() of 32", Scenes::wide, DocumentPaths::nodes, 32);
  }

  private void nodeAt() {
    bounds.sentence("Promise 9", "The number of the node with exactly 'rank' nodes before it in document order");
    int[] order = {0, 1, 4, 5, 6, 2, 3, 7};
    for (int rank = 0; rank < order.length; rank++) {
      bounds.due("nodeAt(" + rank + ")", Trees.small().nodeAt(rank), order[rank]);
    }
    for (int rank = 0; rank < 32; rank++) {
      bounds.due("nodeAt(" + rank + ") of a row of 32", Trees.deep().nodeAt(rank), rank);
    }
    bounds.due("nodeAt(0) of 1", new DocumentPaths().nodeAt(0), 0);
    bounds.unchanged("nodeAt(7)", Scenes::small, d -> d.nodeAt(7), 7);
  }

  private void nodeAtNone() {
    bounds.sentence("Promise 9", "-1 if there is none");
    bounds.range("the rank of 1", Scenes::lone, DocumentPaths::nodeAt, 0, 0, -1);
    bounds.range("the rank of 8", Scenes::small, DocumentPaths::nodeAt, 0, 7, -1);
    bounds.range("the rank of 32", Scenes::wide, DocumentPaths::nodeAt, 0, 31, -1);
    bounds.range(
        "the rank of 31 that were 32", () -> Scenes.without(Scenes.wide(), 9), DocumentPaths::nodeAt, 0, 30, -1);
  }

  private void childAt() {
    bounds.sentence("Promise 10", "The number of the child at a place");
    bounds.alike("the children of 0", Trees.children(Trees.small(), 0), "1 2 3");
    bounds.alike("the children of 1", Trees.children(Trees.small(), 1), "4 5");
    bounds.alike("the children of 5", Trees.children(Trees.small(), 5), "6");
    for (int place = 0; place < 31; place++) {
      bounds.due("childAt(0, " + place + ") of 31", Trees.wide().childAt(0, place), place + 1);
    }
    bounds.due("childAt(30, 0) of a row of 32", Trees.deep().childAt(30, 0), 31);
    bounds.unchanged("childAt(0, 2)", Scenes::small, d -> d.childAt(0, 2), 3);
  }

  private void childAtNone() {
    bounds.sentence("Promise 10", "-1 if there is no such node, or no such place");
    bounds.range("a place of 3", Scenes::small, (d, place) -> d.childAt(0, place), 0, 2, -1);
    bounds.range("a place of 1", Scenes::small, (d, place) -> d.childAt(3, place), 0, 0, -1);
    bounds.range("a place of 31", Scenes::wide, (d, place) -> d.childAt(0, place), 0, 30, -1);
    bounds.unchanged("place 0 of no children", Scenes::small, d -> d.childAt(2, 0), -1);
    bounds.unchanged("place -1 of no children", Scenes::small, d -> d.childAt(2, -1), -1);
    bounds.unchanged("place 0 of the only node", Scenes::lone, d -> d.childAt(0, 0), -1);
    bounds.range("a node of 31", () -> Scenes.without(Scenes.deep(), 31), (d, node) -> d.childAt(node, 0), 0, 29, -1);
    bounds.refusedBeside("a node of 32", Scenes::deep, (d, node) -> d.childAt(node, 0), 0, 31, -1);
    bounds.refusedBeside("a node of 8", Scenes::small, (d, node) -> d.childAt(node, 0), 0, 7, -1);
    bounds.unchanged("one taken out", () -> Scenes.without(Scenes.small(), 1), d -> d.childAt(5, 0), -1);
    bounds.unchanged("no node and no place", Scenes::small, d -> d.childAt(8, -1), -1);
  }

  private void tagOf() {
    bounds.sentence("Promise 11", "The node's tag");
    int[] tags = {0, 1, 2, 1, 3, 2, 1, 3};
    for (int node = 0; node < tags.length; node++) {
      bounds.due("tagOf(" + node + ")", Trees.small().tagOf(node), tags[node]);
    }
    DocumentPaths wide = Trees.wide();
    wide.label(31, 7);
    bounds.due("tagOf(31), the greatest tag", wide.tagOf(31), 7);
    bounds.due("tagOf(30), the least tag", wide.tagOf(30), 0);
    bounds.unchanged("tagOf(4)", Scenes::small, d -> d.tagOf(4), 3);
  }

  private void tagOfNone() {
    bounds.sentence("Promise 11", "-1 if there is no such node");
    bounds.range("tagOf, of 1", Scenes::lone, DocumentPaths::tagOf, 0, 0, -1);
    bounds.range("tagOf, of 8", Scenes::small, DocumentPaths::tagOf, 0, 7, -1);
    bounds.range("tagOf, of 32", Scenes::wide, DocumentPaths::tagOf, 0, 31, -1);
    bounds.unchanged("tagOf one taken out", () -> Scenes.without(Scenes.small(), 2), d -> d.tagOf(2), -1);
    bounds.unchanged("tagOf one taken out below", () -> Scenes.without(Scenes.small(), 1), d -> d.tagOf(6), -1);
  }

  private void valueOf() {
    bounds.sentence("Promise 12", "The node's value");
    int[] values = {0, 10, 20, 10, -5, 0, 20, -5};
    for (int node = 0; node < values.length; node++) {
      bounds.due("valueOf(" + node + ")", Trees.small().valueOf(node), values[node]);
    }
    DocumentPaths wide = Trees.wide();
    wide.mark(31, 99);
    wide.mark(0, -99);
    bounds.due("valueOf(31), the greatest value", wide.valueOf(31), 99);
    bounds.due("valueOf(0), the least value", wide.valueOf(0), -99);
    bounds.unchanged("valueOf(4)", Scenes::small, d -> d.valueOf(4), -5);
  }

  private void valueOfNone() {
    bounds.sentence("Promise 12", "100 if there is no such node");
    bounds.due("valueOf(7) of 8", Scenes.small().valueOf(7), -5);
    bounds.due("valueOf(31) of 32", Scenes.wide().valueOf(31), 0);
    bounds.refusedBeside("valueOf, of 1", Scenes::lone, DocumentPaths::valueOf, 0, 0, 100);
    bounds.refusedBeside("valueOf, of 8", Scenes::small, DocumentPaths::valueOf, 0, 7, 100);
    bounds.refusedBeside("valueOf, of 32", Scenes::wide, DocumentPaths::valueOf, 0, 31, 100);
    bounds.unchanged("valueOf one taken out", () -> Scenes.without(Scenes.small(), 2), d -> d.valueOf(2), 100);
    bounds.unchanged("valueOf one taken out below", () -> Scenes.without(Scenes.small(), 1), d -> d.valueOf(6), 100);
  }
}
