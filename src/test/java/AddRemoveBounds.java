/** The sentences of the promises 1 to 3: a new object, add, remove. */
final class AddRemoveBounds {
  private final Bounds bounds;

  private AddRemoveBounds(Bounds bounds) {
    this.bounds = bounds;
  }

  static void look(Bounds bounds) {
    AddRemoveBounds tests = new AddRemoveBounds(bounds);
    tests.newTree();
    tests.newQuery();
    tests.newWatches();
    tests.addPuts();
    tests.addMovesUp();
    tests.addTakesLeastNumber();
    tests.addParent();
    tests.addPlace();
    tests.addTag();
    tests.addToFullTree();
    tests.addAnswer();
    tests.removeTakesOut();
    tests.removeMovesDown();
    tests.removeNode();
    tests.removeRoot();
    tests.removeAnswer();
  }

  private void tree(DocumentPaths d, String want) {
    bounds.alike("the tree", Trees.picture(d), want);
  }

  private void newTree() {
    bounds.sentence("Promise 1", "Only the root, with tag 0 and value 0");
    DocumentPaths d = new DocumentPaths();
    bounds.due("nodes()", d.nodes(), 1);
    bounds.due("nodeAt(0)", d.nodeAt(0), 0);
    bounds.due("nodeAt(1)", d.nodeAt(1), -1);
    bounds.due("childAt(0, 0)", d.childAt(0, 0), -1);
    bounds.due("tagOf(0)", d.tagOf(0), 0);
    bounds.due("valueOf(0)", d.valueOf(0), 0);
    for (int node = 1; node < 32; node++) {
      bounds.due("tagOf(" + node + ")", d.tagOf(node), -1);
      bounds.due("valueOf(" + node + ")", d.valueOf(node), 100);
    }
  }

  private void newQuery() {
    bounds.sentence("Promise 1", "an empty query");
    DocumentPaths d = new DocumentPaths();
    bounds.due("select(0, 0)", d.select(0, 0), -1);
    bounds.due("selected(0)", d.selected(0), -1);
    bounds.due("related(0, 0)", d.related(0, 0), -1);
    bounds.due("pairs()", d.pairs(), -1);
    bounds.due("holds(0)", d.holds(0), -1);
    bounds.due("holders()", d.holders(), -1);
    bounds.due("same()", d.same(), -1);
    bounds.due("watch(0, 0)", d.watch(0, 0), -2);
    bounds.due("TURN", Scenes.put(d, "TURN"), -3);
    bounds.due("NOT", Scenes.put(d, "NOT"), -3);
    bounds.due("clearQuery()", d.clearQuery(), 0);
    bounds.due("AXIS 0", Scenes.put(new DocumentPaths(), "AXIS 0"), 1);
  }

  private void newWatches() {
    bounds.sentence("Promise 1", "no watch is set");
    DocumentPaths d = new DocumentPaths();
    for (int round = 0; round < 2; round++) {
      for (int slot = 0; slot < 3; slot++) {
        bounds.due("watched(" + slot + ", 0)", d.watched(slot, 0), -1);
        bounds.due("gained(" + slot + ")", d.gained(slot), 0);
        bounds.due("lost(" + slot + ")", d.lost(slot), 0);
      }
      d.add(0, 0, 0);
    }
  }

  private void addPuts() {
    bounds.sentence(
        "Promise 2", "Puts a new node with this tag and the value 0 at a place among the children of a node");
    DocumentPaths d = new DocumentPaths();
    d.mark(0, 9);
    d.add(0, 0, 7);
    tree(d, "2 0:0/9(1) 1:7/0()");
    d.mark(1, 99);
    d.remove(1);
    d.add(0, 0, 0);
    bounds.due("tagOf a number that had another tag", d.tagOf(1), 0);
    bounds.due("valueOf a number that had another value", d.valueOf(1), 0);
    bounds.due("to a leaf", d.add(1, 0, 3), 2);
    tree(d, "3 0:0/9(1) 1:0/0(2) 2:3/0()");
  }

  private void addMovesUp() {
    bounds.sentence("Promise 2", "those at this place and greater ones move up by one");
    String[] rows = {"8 1 2 3", "1 8 2 3", "1 2 8 3", "1 2 3 8"};
    for (int place = 0; place < rows.length; place++) {
      DocumentPaths d = Trees.small();
      d.add(0, place, 5);
      bounds.alike("the children, place " + place, Trees.children(d, 0), rows[place]);
      bounds.alike("the children of 1", Trees.children(d, 1), "4 5");
      bounds.alike("the children of 3", Trees.children(d, 3), "7");
    }
  }

  private void addTakesLeastNumber() {
    bounds.sentence("Promise 2", "Its number is the least that no node has");
    DocumentPaths d = Trees.wide();
    for (int node : new int[] {31, 1, 17, 16}) {
      d.remove(node);
    }
    for (int node : new int[] {1, 16, 17, 31}) {
      bounds.due("add", d.add(0, 0, 0), node);
    }
    d.remove(30);
    d.remove(2);
    bounds.due("add", d.add(3, 0, 0), 2);
    d.remove(2);
    bounds.due("add, the number just left", d.add(3, 0, 0), 2);
    bounds.due("add", d.add(3, 0, 0), 30);
    DocumentPaths deep = Scenes.without(Trees.deep(), 9);
    bounds.due("add, numbers left below", deep.add(8, 0, 0), 9);
    bounds.due("add, numbers left below", deep.add(8, 0, 0), 10);
  }

  private void addParent() {
    bounds.sentence("Promise 2", "There is no node 'parent': -1");
    bounds.range(
        "add to a node", () -> Scenes.without(Scenes.wide(), 15), (d, parent) -> d.add(parent, 0, 0), 0, 31, -1);
    bounds.range("add to the only node", Scenes::lone, (d, parent) -> d.add(parent, 0, 0), 0, 0, -1);
    bounds.range("add to one of 8 nodes", Scenes::small, (d, parent) -> d.add(parent, 0, 0), 0, 7, -1);
    bounds.unchanged("add to one taken out", () -> Scenes.without(Scenes.small(), 6), d -> d.add(6, 0, 0), -1);
    bounds.unchanged("add to one taken out below", () -> Scenes.without(Scenes.small(), 1), d -> d.add(6, 0, 0), -1);
    bounds.unchanged("-1 ahead of -2, place too small", Scenes::small, d -> d.add(8, -1, 0), -1);
    bounds.unchanged("-1 ahead of -2, place too great", Scenes::small, d -> d.add(-1, 1, 0), -1);
    bounds.unchanged("-1 ahead of -3", Scenes::small, d -> d.add(8, 0, 8), -1);
    bounds.unchanged("-1 ahead of -4", Scenes::wide, d -> d.add(32, 0, 0), -1);
    bounds.unchanged("-1 ahead of all", Scenes::wide, d -> d.add(-1, -1, -1), -1);
  }

  private void addPlace() {
    bounds.sentence("Promise 2", "place is not from 0 to the number of its children: -2");
    bounds.range("add to no children, at a place", Scenes::lone, (d, place) -> d.add(0, place, 0), 0, 0, -2);
    bounds.range("add to 1 child, at a place", Scenes::small, (d, place) -> d.add(3, place, 0), 0, 1, -2);
    bounds.range("add to 2 children, at a place", Scenes::small, (d, place) -> d.add(1, place, 0), 0, 2, -2);
    bounds.range("add to 3 children, at a place", Scenes::small, (d, place) -> d.add(0, place, 0), 0, 3, -2);
    bounds.range(
        "add to 30 children, at a place",
        () -> Scenes.without(Scenes.wide(), 31), (d, place) -> d.add(0, place, 0), 0, 30, -2);
    bounds.unchanged("-2 ahead of -3, place too small", Scenes::small, d -> d.add(1, -1, 8), -2);
    bounds.unchanged("-2 ahead of -3, place too great", Scenes::small, d -> d.add(1, 3, -1), -2);
    bounds.unchanged("-2 ahead of -4, place too small", Scenes::wide, d -> d.add(0, -1, 0), -2);
    bounds.unchanged("-2 ahead of -4, place too great", Scenes::wide, d -> d.add(0, 32, 0), -2);
    bounds.unchanged("-2 ahead of -3 and -4", Scenes::deep, d -> d.add(31, 1, 8), -2);
  }

  private void addTag() {
    bounds.sentence("Promise 2", "tag is not 0 to 7: -3");
    bounds.range("add with a tag", Scenes::small, (d, tag) -> d.add(0, 0, tag), 0, 7, -3);
    for (int tag = 0; tag <= 7; tag++) {
      DocumentPaths d = Scenes.lone();
      bounds.due("add(0, 0, " + tag + ")", d.add(0, 0, tag), 1);
      bounds.due("tagOf(1)", d.tagOf(1), tag);
    }
    bounds.unchanged("-3 ahead of -4, tag too small", Scenes::wide, d -> d.add(0, 31, -1), -3);
    bounds.unchanged("-3 ahead of -4, tag too great", Scenes::deep, d -> d.add(31, 0, 8), -3);
  }

  private void addToFullTree() {
    bounds.sentence("Promise 2", "there are 32 nodes: -4");
    bounds.due("add to 31 nodes", Scenes.without(Scenes.wide(), 31).add(0, 30, 7), 31);
    bounds.unchanged("add to 32 nodes, at the end", Scenes::wide, d -> d.add(0, 31, 7), -4);
    bounds.unchanged("add to 32 nodes, at place 0", Scenes::wide, d -> d.add(0, 0, 0), -4);
    bounds.unchanged("add to 32 nodes, to the last leaf", Scenes::deep, d -> d.add(31, 0, 0), -4);
    bounds.due("add after a node was taken out", Scenes.without(Scenes.deep(), 31).add(30, 0, 0), 31);
  }

  private void addAnswer() {
    bounds.sentence("Promise 2", "Else answers its number");
    DocumentPaths d = new DocumentPaths();
    for (int node = 1; node <= 31; node++) {
      bounds.due("add", d.add(0, 0, 0), node);
      bounds.due("childAt(0, 0)", d.childAt(0, 0), node);
    }
  }

  private void removeTakesOut() {
    bounds.sentence("Promise 3", "Takes a node out with all nodes below it");
    tree(
        Scenes.without(Trees.small(), 6),
        "7 0:0/0(1 2 3) 1:1/10(4 5) 4:3/-5() 5:2/0() 2:2/20() 3:1/10(7) 7:3/-5()");
    tree(Scenes.without(Trees.small(), 1), "4 0:0/0(2 3) 2:2/20() 3:1/10(7) 7:3/-5()");
    tree(
        Scenes.without(Trees.small(), 3),
        "6 0:0/0(1 2) 1:1/10(4 5) 4:3/-5() 5:2/0(6) 6:1/20() 2:2/20()");
    tree(Scenes.without(Trees.deep(), 1), "1 0:0/0()");
    tree(Scenes.without(Trees.deep(), 3), "3 0:0/0(1) 1:0/0(2) 2:0/0()");
  }

  private void removeMovesDown() {
    bounds.sentence("Promise 3", "places behind it become less by one");
    String[] rows = {"2 3", "1 3", "1 2"};
    for (int place = 0; place < rows.length; place++) {
      DocumentPaths d = Trees.small();
      d.remove(d.childAt(0, place));
      bounds.alike("the children without the one at " + place, Trees.children(d, 0), rows[place]);
      bounds.due("the last place of before", d.childAt(0, 2), -1);
    }
    DocumentPaths only = Scenes.without(Trees.small(), 7);
    bounds.due("the place of an only child", only.childAt(3, 0), -1);
  }

  private void removeNode() {
    bounds.sentence("Promise 3", "There is no such node: -1");
    bounds.due("remove(1) of 32", Scenes.wide().remove(1), 1);
    bounds.due("remove(31) of 32", Scenes.wide().remove(31), 1);
    bounds.due("remove(7) of 8", Scenes.small().remove(7), 1);
    bounds.refusedBeside("remove of 32", Scenes::wide, DocumentPaths::remove, 0, 31, -1);
    bounds.refusedBeside("remove of 8", Scenes::small, DocumentPaths::remove, 0, 7, -1);
    bounds.refusedBeside("remove of 1", Scenes::lone, DocumentPaths::remove, 0, 0, -1);
    bounds.unchanged("remove it again", () -> Scenes.without(Scenes.small(), 2), d -> d.remove(2), -1);
    bounds.unchanged("remove one below it", () -> Scenes.without(Scenes.small(), 1), d -> d.remove(6), -1);
  }

  private void removeRoot() {
    bounds.sentence("Promise 3", "it is the root: -2");
    bounds.unchanged("remove(0) of 1", Scenes::lone, d -> d.remove(0), -2);
    bounds.unchanged("remove(0) of 8", Scenes::small, d -> d.remove(0), -2);
    bounds.unchanged("remove(0) of 32", Scenes::wide, d -> d.remove(0), -2);
    bounds.due("remove(1), next to it", Scenes.small().remove(1), 4);
  }

  private void removeAnswer() {
    bounds.sentence("Promise 3", "Else answers how many nodes were taken out");
    int[] counts = {0, 4, 1, 2, 1, 2, 1, 1};
    for (int node = 1; node < counts.length; node++) {
      bounds.due("remove(" + node + ")", Trees.small().remove(node), counts[node]);
    }
    for (int node = 1; node <= 31; node++) {
      bounds.due("remove(" + node + ") of a row of 32", Trees.deep().remove(node), 32 - node);
    }
  }
}
