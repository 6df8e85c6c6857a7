/** Promises 1 to 7: a new object, add, remove, move, copy, label, mark. */
public final class EditsTest {
  private static final String SMALL =
      "8 0:0/0(1 2 3) 1:1/10(4 5) 4:3/-5() 5:2/0(6) 6:1/20() 2:2/20() 3:1/10(7) 7:3/-5()";
  private static final Check check = new Check();

  public static void main(String[] args) {
    newObject();
    addPuts();
    addRefuses();
    removeTakesOut();
    removeRefuses();
    movePuts();
    moveRefuses();
    copyPuts();
    copyRefuses();
    labelGives();
    markGives();
    check.end();
  }

  private static void newObject() {
    check.about("promise 1");
    DocumentPaths d = new DocumentPaths();
    check.alike("the tree", Trees.picture(d), "1 0:0/0()");
    check.due("nodeAt(0)", d.nodeAt(0), 0);
    check.due("nodeAt(1)", d.nodeAt(1), -1);
    check.due("pairs()", d.pairs(), -1);
    check.due("holders()", d.holders(), -1);
    check.due("same()", d.same(), -1);
    for (int slot = 0; slot < 3; slot++) {
      check.due("watched", d.watched(slot, 0), -1);
      check.due("gained", d.gained(slot), 0);
      check.due("lost", d.lost(slot), 0);
    }
    check.due("clearQuery()", d.clearQuery(), 0);
    for (int i = 0; i < 24; i++) {
      check.isTrue("24 tokens may be put", Trees.put(d, i == 0 ? 0 : 5, 0) == 1);
    }
    DocumentPaths other = new DocumentPaths();
    other.add(0, 0, 5);
    check.alike("a second object's tree", Trees.picture(other), "2 0:0/0(1) 1:5/0()");
    check.alike("the first object's tree", Trees.picture(d), "1 0:0/0()");
  }

  private static void addPuts() {
    check.about("promise 2");
    DocumentPaths d = new DocumentPaths();
    check.due("add first", d.add(0, 0, 7), 1);
    check.due("add behind", d.add(0, 1, 0), 2);
    check.due("add before", d.add(0, 0, 3), 3);
    check.due("add between", d.add(0, 1, 4), 4);
    check.due("add below", d.add(4, 0, 5), 5);
    check.alike("the tree", Trees.picture(d), "6 0:0/0(3 4 1 2) 3:3/0() 4:4/0(5) 5:5/0() 1:7/0() 2:0/0()");
    d.mark(4, 50);
    d.remove(4);
    check.due("add takes the least free number", d.add(2, 0, 6), 4);
    check.due("then the next one", d.add(2, 0, 6), 5);
    check.due("then a new one", d.add(2, 2, 6), 6);
    check.alike(
        "the tree, new nodes with value 0",
        Trees.picture(d),
        "7 0:0/0(3 1 2) 3:3/0() 1:7/0() 2:0/0(5 4 6) 5:6/0() 4:6/0() 6:6/0()");
    check.due("the last number", Trees.wide().childAt(0, 30), 31);
    check.due("the deepest node", Trees.deep().nodeAt(31), 31);
  }

  private static void addRefuses() {
    check.about("promise 2, refusals");
    DocumentPaths d = Trees.small();
    for (int node : Trees.WRONG_NODES) {
      check.due("add to " + node, d.add(node, -1, 8), -1);
    }
    check.due("add to a number without a node", d.add(8, -1, 8), -1);
    check.due("place -1", d.add(1, -1, 8), -2);
    check.due("place behind the end", d.add(1, 3, 8), -2);
    check.due("place 1 of no children", d.add(7, 1, 0), -2);
    check.due("place least", d.add(1, Integer.MIN_VALUE, 0), -2);
    check.due("place greatest", d.add(1, Integer.MAX_VALUE, 0), -2);
    check.due("tag -1", d.add(1, 2, -1), -3);
    check.due("tag 8", d.add(1, 2, 8), -3);
    check.alike("the tree", Trees.picture(d), SMALL);
    DocumentPaths full = Trees.wide();
    check.due("32 nodes", full.add(0, 31, 7), -4);
    check.due("32 nodes, tag 8", full.add(0, 31, 8), -3);
    check.due("32 nodes, place 32", full.add(0, 32, 8), -2);
    check.due("nodes()", full.nodes(), 32);
    full.remove(9);
    check.due("31 nodes", full.add(31, 0, 7), 9);
  }

  private static void removeTakesOut() {
    check.about("promise 3");
    DocumentPaths d = Trees.small();
    check.due("remove a leaf", d.remove(2), 1);
    check.alike(
        "the tree", Trees.picture(d), "7 0:0/0(1 3) 1:1/10(4 5) 4:3/-5() 5:2/0(6) 6:1/20() 3:1/10(7) 7:3/-5()");
    check.due("remove with those below", d.remove(1), 4);
    check.alike("the tree", Trees.picture(d), "3 0:0/0(3) 3:1/10(7) 7:3/-5()");
    check.due("its number", d.tagOf(1), -1);
    check.due("the number of one below", d.valueOf(6), 100);
    check.due("remove it again", d.remove(1), -1);
    check.due("remove the last child", d.remove(3), 2);
    check.alike("the tree", Trees.picture(d), "1 0:0/0()");
    check.due("31 nodes at once", Trees.deep().remove(1), 31);
  }

  private static void removeRefuses() {
    check.about("promise 3, refusals");
    DocumentPaths d = Trees.small();
    for (int node : Trees.WRONG_NODES) {
      check.due("remove " + node, d.remove(node), -1);
    }
    check.due("remove a number without a node", d.remove(8), -1);
    check.due("remove the root", d.remove(0), -2);
    check.due("remove the only node", new DocumentPaths().remove(0), -2);
    check.alike("the tree", Trees.picture(d), SMALL);
  }

  private static void movePuts() {
    check.about("promise 4");
    DocumentPaths d = Trees.small();
    check.due("move under another node", d.move(1, 3, 1), 2);
    check.alike(
        "the tree",
        Trees.picture(d),
        "8 0:0/0(2 3) 2:2/20() 3:1/10(7 1) 7:3/-5() 1:1/10(4 5) 4:3/-5() 5:2/0(6) 6:1/20()");
    check.due("move up in the tree", d.move(5, 0, 0), 3);
    check.alike(
        "the tree",
        Trees.picture(d),
        "8 0:0/0(5 2 3) 5:2/0(6) 6:1/20() 2:2/20() 3:1/10(7 1) 7:3/-5() 1:1/10(4) 4:3/-5()");
    check.due("to the end of its own row", d.move(5, 0, 2), 3);
    check.due("childAt(0, 2)", d.childAt(0, 2), 5);
    check.due("one place ahead", d.move(5, 0, 1), 3);
    check.due("childAt(0, 1)", d.childAt(0, 1), 5);
    check.due("where it is", d.move(5, 0, 1), 3);
    check.alike(
        "the tree",
        Trees.picture(d),
        "8 0:0/0(2 5 3) 2:2/20() 5:2/0(6) 6:1/20() 3:1/10(7 1) 7:3/-5() 1:1/10(4) 4:3/-5()");
    check.due("under the child before it", d.move(5, 2, 0), 1);
    check.due("childAt(2, 0)", d.childAt(2, 0), 5);
    check.due("into a leaf", d.move(2, 4, 0), 1);
    check.alike(
        "the tree",
        Trees.picture(d),
        "8 0:0/0(3) 3:1/10(7 1) 7:3/-5() 1:1/10(4) 4:3/-5(2) 2:2/20(5) 5:2/0(6) 6:1/20()");
    DocumentPaths beside = Trees.small();
    check.due("under the node behind all below it", beside.move(1, 2, 0), 1);
    check.due("childAt(2, 0)", beside.childAt(2, 0), 1);
    DocumentPaths full = Trees.wide();
    check.due("move in a full tree", full.move(31, 0, 0), 31);
    check.due("childAt(0, 0)", full.childAt(0, 0), 31);
    check.due("childAt(0, 30)", full.childAt(0, 30), 30);
  }

  private static void moveRefuses() {
    check.about("promise 4, refusals");
    DocumentPaths d = Trees.small();
    for (int node : Trees.WRONG_NODES) {
      check.due("move " + node, d.move(node, 0, -1), -1);
      check.due("move to " + node, d.move(0, node, -1), -1);
    }
    check.due("move a number without a node", d.move(8, 0, 0), -1);
    check.due("move to a number without a node", d.move(1, 8, 0), -1);
    check.due("move the root", d.move(0, 2, 99), -2);
    check.due("move the root to itself", d.move(0, 0, 0), -2);
    check.due("move to itself", d.move(1, 1, 0), -2);
    check.due("move below itself", d.move(1, 5, 99), -2);
    check.due("move far below itself", d.move(1, 6, 0), -2);
    check.due("place -1", d.move(1, 3, -1), -3);
    check.due("place behind the end", d.move(1, 3, 2), -3);
    check.due("place behind the end without itself", d.move(1, 0, 3), -3);
    check.due("place least", d.move(1, 0, Integer.MIN_VALUE), -3);
    check.due("place greatest", d.move(1, 0, Integer.MAX_VALUE), -3);
    check.alike("the tree", Trees.picture(d), SMALL);
  }

  private static void copyPuts() {
    check.about("promise 5");
    DocumentPaths d = Trees.small();
    check.due("copy beside", d.copy(1, 0, 1), 8);
    check.alike(
        "the tree",
        Trees.picture(d),
        "12 0:0/0(1 8 2 3) 1:1/10(4 5) 4:3/-5() 5:2/0(6) 6:1/20() 8:1/10(9 10) 9:3/-5() 10:2/0(11) 11:1/20()"
            + " 2:2/20() 3:1/10(7) 7:3/-5()");
    d.remove(4);
    d.remove(2);
    check.due("copy into itself, with the least free numbers", d.copy(5, 5, 0), 2);
    check.alike(
        "the tree",
        Trees.picture(d),
        "12 0:0/0(1 8 3) 1:1/10(5) 5:2/0(2 6) 2:2/0(4) 4:1/20() 6:1/20() 8:1/10(9 10) 9:3/-5() 10:2/0(11)"
            + " 11:1/20() 3:1/10(7) 7:3/-5()");
    check.due("copy below itself", d.copy(3, 7, 0), 12);
    check.due("childAt(7, 0)", d.childAt(7, 0), 12);
    check.due("childAt(12, 0)", d.childAt(12, 0), 13);
    check.due("childAt(13, 0)", d.childAt(13, 0), -1);
    check.due("the original is left alone", d.mark(12, 77), 1);
    check.due("valueOf(3)", d.valueOf(3), 10);
    DocumentPaths root = new DocumentPaths();
    root.label(0, 6);
    root.mark(0, -99);
    check.due("copy of the root", root.copy(0, 0, 0), 1);
    check.due("copy of the root, twice", root.copy(0, 1, 0), 2);
    check.alike("the tree", Trees.picture(root), "4 0:6/-99(1) 1:6/-99(2) 2:6/-99(3) 3:6/-99()");
    check.due("copy to exactly", root.copy(0, 3, 0), 4);
    check.due("nodes()", root.nodes(), 8);
    root.copy(0, 0, 0);
    check.due("copy to 32 nodes", root.copy(0, 0, 0), 16);
    check.due("nodes()", root.nodes(), 32);
  }

  private static void copyRefuses() {
    check.about("promise 5, refusals");
    DocumentPaths d = Trees.small();
    for (int node : Trees.WRONG_NODES) {
      check.due("copy " + node, d.copy(node, 0, -1), -1);
      check.due("copy to " + node, d.copy(0, node, -1), -1);
    }
    check.due("copy a number without a node", d.copy(8, 0, 0), -1);
    check.due("copy to a number without a node", d.copy(1, 8, 0), -1);
    check.due("place -1", d.copy(1, 0, -1), -2);
    check.due("place behind the end, the node counted", d.copy(1, 0, 4), -2);
    check.due("place least", d.copy(1, 0, Integer.MIN_VALUE), -2);
    check.due("place greatest", d.copy(1, 0, Integer.MAX_VALUE), -2);
    check.alike("the tree", Trees.picture(d), SMALL);
    DocumentPaths deep = Trees.deep();
    deep.remove(17);
    check.due("nodes()", deep.nodes(), 17);
    check.due("16 more than 17", deep.copy(1, 0, 0), -4);
    check.due("16 more than 17, wrong place", deep.copy(1, 0, 2), -2);
    check.due("nodes()", deep.nodes(), 17);
    check.due("15 more than 17", deep.copy(2, 0, 0), 17);
    check.due("nodes()", deep.nodes(), 32);
    check.due("1 more than 32", deep.copy(31, 0, 0), -4);
  }

  private static void labelGives() {
    check.about("promise 6");
    DocumentPaths d = Trees.small();
    check.due("label", d.label(4, 7), 3);
    check.due("tagOf", d.tagOf(4), 7);
    check.due("the same tag", d.label(4, 7), 7);
    check.due("tag 0", d.label(4, 0), 7);
    check.due("the root", d.label(0, 5), 0);
    check.due("tagOf the root", d.tagOf(0), 5);
    check.due("tag -1", d.label(4, -1), -3);
    check.due("tag 8", d.label(4, 8), -3);
    check.due("no node", d.label(8, 8), -1);
    for (int node : Trees.WRONG_NODES) {
      check.due("label " + node, d.label(node, 9), -1);
    }
    check.alike(
        "the tree",
        Trees.picture(d),
        "8 0:5/0(1 2 3) 1:1/10(4 5) 4:0/-5() 5:2/0(6) 6:1/20() 2:2/20() 3:1/10(7) 7:3/-5()");
  }

  private static void markGives() {
    check.about("promise 7");
    DocumentPaths d = Trees.small();
    check.due("mark", d.mark(4, 99), 1);
    check.due("valueOf", d.valueOf(4), 99);
    check.due("the same value", d.mark(4, 99), 0);
    check.due("the least value", d.mark(4, -99), 1);
    check.due("valueOf", d.valueOf(4), -99);
    check.due("0 on a new value", d.mark(0, 0), 0);
    check.due("value 100", d.mark(4, 100), -3);
    check.due("value -100", d.mark(4, -100), -3);
    check.due("value least", d.mark(4, Integer.MIN_VALUE), -3);
    check.due("no node", d.mark(8, 100), -1);
    for (int node : Trees.WRONG_NODES) {
      check.due("mark " + node, d.mark(node, 100), -1);
    }
    check.alike(
        "the tree",
        Trees.picture(d),
        "8 0:0/0(1 2 3) 1:1/10(4 5) 4:3/-99() 5:2/0(6) 6:1/20() 2:2/20() 3:1/10(7) 7:3/-5()");
  }
}
