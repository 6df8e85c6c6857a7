/** The sentences of the promises 4 and 5: move, copy. */
final class MoveCopyBounds {
  private final Bounds bounds;

  private MoveCopyBounds(Bounds bounds) {
    this.bounds = bounds;
  }

  static void look(Bounds bounds) {
    MoveCopyBounds tests = new MoveCopyBounds(bounds);
    tests.movePuts();
    tests.moveNodes();
    tests.moveRoot();
    tests.moveToItselfOrBelow();
    tests.movePlace();
    tests.moveAnswer();
    tests.copyPuts();
    tests.copyToItselfOrBelow();
    tests.copyNumbers();
    tests.copyNodes();
    tests.copyPlace();
    tests.copyToFullTree();
    tests.copyAnswer();
  }

  private void tree(DocumentPaths d, String want) {
    bounds.alike("the tree", Trees.picture(d), want);
  }

  private void movePuts() {
    bounds.sentence(
        "Promise 4",
        "Takes a node, with all below it, from its place and puts it at a place among the children of a node, the"
            + " place being counted when it has been taken away");
    String[] rows = {"1 2 3", "2 1 3", "2 3 1"};
    for (int place = 0; place < rows.length; place++) {
      DocumentPaths d = Trees.small();
      d.move(1, 0, place);
      bounds.alike("the first child at " + place, Trees.children(d, 0), rows[place]);
      bounds.alike("what is below it", Trees.children(d, 1) + ", " + Trees.children(d, 5), "4 5, 6");
    }
    String[] rowsOfLast = {"3 1 2", "1 3 2", "1 2 3"};
    for (int place = 0; place < rowsOfLast.length; place++) {
      DocumentPaths d = Trees.small();
      d.move(3, 0, place);
      bounds.alike("the last child at " + place, Trees.children(d, 0), rowsOfLast[place]);
    }
    DocumentPaths up = Trees.small();
    up.move(5, 0, 3);
    tree(up, "8 0:0/0(1 2 3 5) 1:1/10(4) 4:3/-5() 2:2/20() 3:1/10(7) 7:3/-5() 5:2/0(6) 6:1/20()");
    DocumentPaths down = Trees.small();
    down.move(1, 7, 0);
    tree(down, "8 0:0/0(2 3) 2:2/20() 3:1/10(7) 7:3/-5(1) 1:1/10(4 5) 4:3/-5() 5:2/0(6) 6:1/20()");
  }

  private void moveNodes() {
    bounds.sentence("Promise 4", "There is no node 'node' or no node 'parent': -1");
    bounds.due("move(1, 31, 0) of 32", Scenes.wide().move(1, 31, 0), 1);
    bounds.due("move(31, 0, 0) of 32", Scenes.wide().move(31, 0, 0), 31);
    bounds.refusedBeside("move a node of 32", Scenes::wide, (d, node) -> d.move(node, 0, 0), 0, 31, -1);
    bounds.refusedBeside("move to a node of 32", Scenes::wide, (d, parent) -> d.move(1, parent, 0), 0, 31, -1);
    bounds.refusedBeside("move a node of 8", Scenes::small, (d, node) -> d.move(node, 0, 0), 0, 7, -1);
    bounds.refusedBeside("move to a node of 8", Scenes::small, (d, parent) -> d.move(1, parent, 0), 0, 7, -1);
    bounds.unchanged("both missing", Scenes::small, d -> d.move(8, 9, 0), -1);
    bounds.unchanged("one taken out", () -> Scenes.without(Scenes.small(), 1), d -> d.move(6, 0, 0), -1);
    bounds.unchanged("to one taken out", () -> Scenes.without(Scenes.small(), 1), d -> d.move(7, 5, 0), -1);
    bounds.unchanged("-1 ahead of -2, the root", Scenes::small, d -> d.move(0, 8, 0), -1);
    bounds.unchanged("-1 ahead of -2, parent is node", Scenes::small, d -> d.move(8, 8, 0), -1);
    bounds.unchanged("-1 ahead of -3, place too small", Scenes::small, d -> d.move(8, 0, -1), -1);
    bounds.unchanged("-1 ahead of -3, place too great", Scenes::small, d -> d.move(1, 8, 1), -1);
    bounds.unchanged("-1 ahead of -2 and -3", Scenes::small, d -> d.move(0, -1, -1), -1);
  }

  private void moveRoot() {
    bounds.sentence("Promise 4", "node is the root, or parent is node or below it: -2");
    bounds.unchanged("the root to a leaf", Scenes::small, d -> d.move(0, 2, 0), -2);
    bounds.unchanged("the root to the last node", Scenes::small, d -> d.move(0, 7, 0), -2);
    bounds.unchanged("the root to itself", Scenes::small, d -> d.move(0, 0, 0), -2);
    bounds.unchanged("the only node", Scenes::lone, d -> d.move(0, 0, 0), -2);
    bounds.unchanged("-2 ahead of -3, place too small", Scenes::small, d -> d.move(0, 2, -1), -2);
    bounds.unchanged("-2 ahead of -3, place too great", Scenes::small, d -> d.move(0, 2, 1), -2);
    bounds.due("node 1, next to the root", Scenes.small().move(1, 2, 0), 1);
  }

  private void moveToItselfOrBelow() {
    bounds.sentence("Promise 4", "node is the root, or parent is node or below it: -2");
    bounds.unchanged("to itself", Scenes::small, d -> d.move(1, 1, 0), -2);
    bounds.unchanged("a leaf to itself", Scenes::small, d -> d.move(7, 7, 0), -2);
    for (int below : new int[] {4, 5, 6}) {
      bounds.unchanged("to " + below + " below it", Scenes::small, d -> d.move(1, below, 0), -2);
    }
    bounds.unchanged("to the deepest below it", Scenes::deep, d -> d.move(1, 31, 0), -2);
    bounds.unchanged("-2 ahead of -3, itself", Scenes::small, d -> d.move(1, 1, -1), -2);
    bounds.unchanged("-2 ahead of -3, below it", Scenes::small, d -> d.move(1, 5, 2), -2);
    bounds.due("to the node ahead of it in document order", Scenes.small().move(5, 4, 0), 1);
    bounds.due("to the node behind those below it", Scenes.small().move(1, 2, 0), 1);
    bounds.due("to the node above it", Scenes.small().move(6, 5, 0), 1);
    bounds.due("to the node two above it", Scenes.small().move(6, 1, 2), 3);
    bounds.due("the deepest to the root", Scenes.deep().move(31, 0, 1), 2);
  }

  private void movePlace() {
    bounds.sentence("Promise 4", "place is not from 0 to the number of the parent's children other than node: -3");
    bounds.range("move to no children, at a place", Scenes::small, (d, place) -> d.move(1, 2, place), 0, 0, -3);
    bounds.range("move to 1 child, at a place", Scenes::small, (d, place) -> d.move(1, 3, place), 0, 1, -3);
    bounds.range("move to 3 children, at a place", Scenes::small, (d, place) -> d.move(7, 0, place), 0, 3, -3);
    bounds.range("move an only child, at a place", Scenes::small, (d, place) -> d.move(7, 3, place), 0, 0, -3);
    bounds.range("move the first of 3, at a place", Scenes::small, (d, place) -> d.move(1, 0, place), 0, 2, -3);
    bounds.range("move the last of 3, at a place", Scenes::small, (d, place) -> d.move(3, 0, place), 0, 2, -3);
    bounds.range("move the last of 31, at a place", Scenes::wide, (d, place) -> d.move(31, 0, place), 0, 30, -3);
  }

  private void moveAnswer() {
    bounds.sentence("Promise 4", "Else answers how many children the parent has then");
    bounds.due("to a leaf", Trees.small().move(1, 2, 0), 1);
    bounds.due("to one with 1 child", Trees.small().move(1, 3, 0), 2);
    bounds.due("to its own parent, with 3", Trees.small().move(1, 0, 2), 3);
    bounds.due("where it is", Trees.small().move(1, 0, 0), 3);
    bounds.due("an only child where it is", Trees.small().move(7, 3, 0), 1);
    bounds.due("among 31", Trees.wide().move(1, 0, 30), 31);
    bounds.due("one more for the root", Trees.small().move(6, 0, 0), 4);
  }

  private void copyPuts() {
    bounds.sentence(
        "Promise 5",
        "Puts a copy of a node and all nodes below it, as they are before the call, with their tags, values and"
            + " order, at a place among the children of a node (which may be the node itself or below it)");
    String[] rows = {"8 1 2 3", "1 8 2 3", "1 2 8 3", "1 2 3 8"};
    for (int place = 0; place < rows.length; place++) {
      DocumentPaths d = Trees.small();
      d.copy(3, 0, place);
      bounds.alike("the children, place " + place, Trees.children(d, 0), rows[place]);
      bounds.alike("what is below the copy", Trees.children(d, 8), "9");
    }
    DocumentPaths d = Trees.small();
    d.mark(6, 99);
    d.mark(4, -99);
    d.label(4, 7);
    d.label(5, 0);
    d.copy(1, 2, 0);
    tree(
        d,
        "12 0:0/0(1 2 3) 1:1/10(4 5) 4:7/-99() 5:0/0(6) 6:1/99() 2:2/20(8) 8:1/10(9 10) 9:7/-99() 10:0/0(11)"
            + " 11:1/99() 3:1/10(7) 7:3/-5()");
  }

  private void copyToItselfOrBelow() {
    bounds.sentence("Promise 5", "as they are before the call, with their tags, values and order");
    DocumentPaths root = new DocumentPaths();
    bounds.due("the only node to itself", root.copy(0, 0, 0), 1);
    tree(root, "2 0:0/0(1) 1:0/0()");
    DocumentPaths last = Trees.small();
    bounds.due("to itself, at the last place", last.copy(1, 1, 2), 8);
    tree(
        last,
        "12 0:0/0(1 2 3) 1:1/10(4 5 8) 4:3/-5() 5:2/0(6) 6:1/20() 8:1/10(9 10) 9:3/-5() 10:2/0(11) 11:1/20()"
            + " 2:2/20() 3:1/10(7) 7:3/-5()");
    DocumentPaths between = Trees.small();
    bounds.due("to itself, between its children", between.copy(1, 1, 1), 8);
    bounds.alike("its children", Trees.children(between, 1), "4 8 5");
    bounds.alike("the children of the copy", Trees.children(between, 8), "9 10");
    DocumentPaths below = Trees.small();
    bounds.due("to a node far below it", below.copy(1, 6, 0), 8);
    tree(
        below,
        "12 0:0/0(1 2 3) 1:1/10(4 5) 4:3/-5() 5:2/0(6) 6:1/20(8) 8:1/10(9 10) 9:3/-5() 10:2/0(11) 11:1/20()"
            + " 2:2/20() 3:1/10(7) 7:3/-5()");
  }

  private void copyNumbers() {
    bounds.sentence(
        "Promise 5",
        "The new nodes get their numbers one after the other in document order of the copy, each the least that no"
            + " node has then");
    DocumentPaths d = Trees.small();
    d.add(0, 3, 0);
    d.remove(2);
    d.remove(4);
    d.remove(7);
    bounds.due("copy(0, 3, 0), with 2, 4, 7 and 9 on free", d.copy(0, 3, 0), 2);
    bounds.alike("the children of 2", Trees.children(d, 2), "4 10 11");
    bounds.alike("the children of 4", Trees.children(d, 4), "7");
    bounds.alike("the children of 7", Trees.children(d, 7), "9");
    DocumentPaths full = Scenes.without(Scenes.without(Trees.wide(), 31), 1);
    bounds.due("the least of two", full.copy(2, 0, 0), 1);
    bounds.due("the greatest number", full.copy(2, 0, 0), 31);
  }

  private void copyNodes() {
    bounds.sentence("Promise 5", "There is no node 'node' or no node 'parent': -1");
    bounds.due("copy(0, 0, 0) of 1", Scenes.lone().copy(0, 0, 0), 1);
    bounds.due("copy(31, 30, 0) of 31", Scenes.without(Scenes.wide(), 1).copy(31, 30, 0), 1);
    bounds.due("copy(30, 31, 0) of 31", Scenes.without(Scenes.wide(), 1).copy(30, 31, 0), 1);
    bounds.range("copy a node of 8", Scenes::small, (d, node) -> d.copy(node, 0, 0), 0, 7, -1);
    bounds.range("copy to a node of 8", Scenes::small, (d, parent) -> d.copy(1, parent, 0), 0, 7, -1);
    bounds.refusedBeside("copy a node of 32", Scenes::wide, (d, node) -> d.copy(node, 0, 0), 0, 31, -1);
    bounds.refusedBeside("copy to a node of 32", Scenes::wide, (d, parent) -> d.copy(1, parent, 0), 0, 31, -1);
    bounds.unchanged("both missing", Scenes::small, d -> d.copy(8, 9, 0), -1);
    bounds.unchanged("one taken out", () -> Scenes.without(Scenes.small(), 1), d -> d.copy(6, 0, 0), -1);
    bounds.unchanged("to one taken out", () -> Scenes.without(Scenes.small(), 1), d -> d.copy(7, 5, 0), -1);
    bounds.unchanged("-1 ahead of -2, no node", Scenes::small, d -> d.copy(8, 0, -1), -1);
    bounds.unchanged("-1 ahead of -2, no parent", Scenes::small, d -> d.copy(1, 8, 1), -1);
    bounds.unchanged("-1 ahead of -4", Scenes::seventeen, d -> d.copy(0, 17, 0), -1);
    bounds.unchanged("-1 ahead of -2 and -4", Scenes::seventeen, d -> d.copy(0, 17, -1), -1);
  }

  private void copyPlace() {
    bounds.sentence("Promise 5", "place is not from 0 to the number of the parent's children: -2");
    bounds.range("copy to no children, at a place", Scenes::small, (d, place) -> d.copy(1, 2, place), 0, 0, -2);
    bounds.range("copy to 1 child, at a place", Scenes::small, (d, place) -> d.copy(1, 3, place), 0, 1, -2);
    bounds.range("copy beside itself, at a place", Scenes::small, (d, place) -> d.copy(1, 0, place), 0, 3, -2);
    bounds.range("copy an only child, at a place", Scenes::small, (d, place) -> d.copy(7, 3, place), 0, 1, -2);
    bounds.range("copy to itself, at a place", Scenes::small, (d, place) -> d.copy(1, 1, place), 0, 2, -2);
    bounds.unchanged("-2 ahead of -4, place too small", Scenes::wide, d -> d.copy(1, 0, -1), -2);
    bounds.unchanged("-2 ahead of -4, place too great", Scenes::wide, d -> d.copy(1, 0, 32), -2);
  }

  private void copyToFullTree() {
    bounds.sentence("Promise 5", "there would be more than 32 nodes: -4");
    bounds.due("15 more than 17", Scenes.seventeen().copy(2, 0, 0), 17);
    bounds.unchanged("16 more than 17", Scenes::seventeen, d -> d.copy(1, 0, 0), -4);
    bounds.unchanged("17 more than 17", Scenes::seventeen, d -> d.copy(0, 16, 0), -4);
    bounds.due("1 more than 31", Scenes.without(Scenes.deep(), 31).copy(30, 30, 0), 31);
    bounds.unchanged("2 more than 31", () -> Scenes.without(Scenes.deep(), 31), d -> d.copy(29, 0, 0), -4);
    bounds.unchanged("1 more than 32", Scenes::wide, d -> d.copy(31, 0, 31), -4);
    bounds.unchanged("32 more than 32", Scenes::deep, d -> d.copy(0, 31, 0), -4);
    DocumentPaths twice = Scenes.without(Trees.deep(), 16);
    bounds.due("16 more than 16", twice.copy(0, 15, 0), 16);
    bounds.due("nodes()", twice.nodes(), 32);
  }

  private void copyAnswer() {
    bounds.sentence("Promise 5", "Else answers the number of the copy of the node");
    DocumentPaths d = Trees.small();
    bounds.due("copy(1, 3, 1)", d.copy(1, 3, 1), 8);
    bounds.due("childAt(3, 1)", d.childAt(3, 1), 8);
    d.remove(2);
    bounds.due("copy(1, 0, 0)", d.copy(1, 0, 0), 2);
    bounds.due("childAt(0, 0)", d.childAt(0, 0), 2);
  }
}
