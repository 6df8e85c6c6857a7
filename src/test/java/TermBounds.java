import java.util.List;
import java.util.Set;
import java.util.TreeSet;
import java.util.function.Supplier;

/** The sentences of the document's terms, but for what each token kind stands for. */
final class TermBounds {
  private static final String TERMS = "Terms";
  private static final int[] AXES_THAT_PART_ALL_PAIRS = {0, 3, 4, 7, 8};
  private static final List<String> ONE_OF_EACH_PATH =
      List.of(
          "AXIS 1", "AXIS 2, AXIS 1, JOIN", "AXIS 1, AXIS 2, EITHER", "AXIS 1, AXIS 3, BOTH",
          "AXIS 3, AXIS 0, WITHOUT", "AXIS 1, TURN", "AXIS 2, REPEAT", "AXIS 1, NTH 1", "AXIS 1, TAG 0, WHERE");
  private static final List<String> ONE_OF_EACH_CONDITION =
      List.of(
          "TAG 0", "LEAST 0", "AXIS 1, HAS 1", "TAG 1, NOT", "TAG 0, TAG 0, AND", "TAG 0, TAG 1, OR",
          "AXIS 1, AXIS 1, MATCH");

  private final Bounds bounds;

  private TermBounds(Bounds bounds) {
    this.bounds = bounds;
  }

  static void look(Bounds bounds) {
    TermBounds tests = new TermBounds(bounds);
    tests.calls512();
    tests.oneTo32Nodes();
    tests.numbers();
    tests.tagsAndValues();
    tests.root();
    tests.places();
    tests.below();
    tests.above();
    tests.documentOrder();
    tests.later();
    tests.earlier();
    tests.eightEntries();
    tests.pathOrCondition();
    tests.treeAsItIsNow();
    tests.entriesFollowFromTokens();
    tests.whatIsTakenOff();
    tests.watchSelects();
    tests.threeWatches();
    tests.nodeOfWatchTakenOut();
    tests.nodeOfWatchTakenOutFromAbove();
    tests.numberOfWatchGivenAgain();
    tests.edits();
    tests.refusedCalls();
    tests.orderOfTests();
    tests.callsThatChangeNothing();
    tests.theTop();
  }

  private static DocumentPaths small(String tokens) {
    return Scenes.with(Trees.small(), tokens);
  }

  private static DocumentPaths wide(String tokens) {
    return Scenes.with(Trees.wide(), tokens);
  }

  private static DocumentPaths deep(String tokens) {
    return Scenes.with(Trees.deep(), tokens);
  }

  /** 32 nodes, made by copies of the root to itself alone. */
  private static DocumentPaths copied() {
    DocumentPaths d = new DocumentPaths();
    for (int i = 0; i < 5; i++) {
      d.copy(0, 0, 0);
    }
    return d;
  }

  private void calls512() {
    bounds.sentence("What it is", "An object is used for at most 512 calls after it has been made");
    DocumentPaths d = Scenes.with(Trees.deep(), "AXIS 1, AXIS 2, EITHER, REPEAT");
    d.watch(0, 0);
    for (int call = 37; call <= 510; call++) {
      bounds.due("mark, call " + call, d.mark(31, call % 2), 1);
    }
    bounds.due("remove, call 511", d.remove(31), 1);
    bounds.due("lost, call 512", d.lost(0), 1);
  }

  private void oneTo32Nodes() {
    bounds.sentence(TERMS, "THE TREE has 1 to 32 NODES");
    DocumentPaths least = new DocumentPaths();
    bounds.due("remove(0) of 1", least.remove(0), -2);
    bounds.due("nodes()", least.nodes(), 1);
    for (DocumentPaths full : List.of(Trees.wide(), Trees.deep(), copied())) {
      bounds.due("nodes()", full.nodes(), 32);
      bounds.due("add to 32", full.add(0, 0, 0), -4);
      bounds.due("copy to 32", full.copy(31, 0, 0), -4);
      bounds.due("nodes()", full.nodes(), 32);
      bounds.due("nodeAt(32)", full.nodeAt(32), -1);
    }
  }

  private void numbers() {
    bounds.sentence(TERMS, "A node has a NUMBER from 0 to 31 (different nodes have different numbers)");
    for (DocumentPaths full : List.of(Trees.wide(), Trees.deep(), copied())) {
      Set<Integer> numbers = new TreeSet<>();
      for (int rank = 0; rank < 32; rank++) {
        numbers.add(full.nodeAt(rank));
      }
      bounds.due("different numbers", numbers.size(), 32);
      bounds.isTrue("from 0 to 31", numbers.contains(0) && numbers.contains(31));
      bounds.due("tagOf(-1)", full.tagOf(-1), -1);
      bounds.due("tagOf(31)", full.tagOf(31), 0);
      bounds.due("tagOf(32)", full.tagOf(32), -1);
    }
  }

  private void tagsAndValues() {
    bounds.sentence(
        TERMS,
        "A node has a NUMBER from 0 to 31 (different nodes have different numbers), a TAG from 0 to 7 and a VALUE from"
            + " -99 to 99");
    DocumentPaths d = new DocumentPaths();
    for (int tag = -1; tag <= 8; tag++) {
      boolean taken = tag >= 0 && tag <= 7;
      bounds.isTrue("label with " + tag, d.label(0, tag) >= 0 == taken);
      bounds.due("tagOf(0)", d.tagOf(0), taken ? tag : tag < 0 ? 0 : 7);
    }
    for (int value = -100; value <= 100; value++) {
      boolean taken = value >= -99 && value <= 99;
      bounds.isTrue("mark with " + value, d.mark(0, value) >= 0 == taken);
      bounds.due("valueOf(0)", d.valueOf(0), taken ? value : value < 0 ? 0 : 99);
    }
    d.copy(0, 0, 0);
    bounds.due("tagOf the copy", d.tagOf(1), 7);
    bounds.due("valueOf the copy", d.valueOf(1), 99);
  }

  private void root() {
    bounds.sentence(TERMS, "The ROOT is always there");
    for (Supplier<DocumentPaths> scene : List.<Supplier<DocumentPaths>>of(Scenes::lone, Scenes::small, Scenes::wide)) {
      bounds.unchanged("remove(0)", scene, d -> d.remove(0), -2);
      bounds.unchanged("move(0, 0, 0)", scene, d -> d.move(0, 0, 0), -2);
    }
    bounds.unchanged("move(0, 31, 0)", Scenes::deep, d -> d.move(0, 31, 0), -2);
    bounds.sentence(TERMS, "its number is 0");
    DocumentPaths d = new DocumentPaths();
    bounds.due("nodeAt(0)", d.nodeAt(0), 0);
    d.copy(0, 0, 0);
    bounds.due("nodeAt(0) after a copy of it", d.nodeAt(0), 0);
    d.add(0, 0, 0);
    d.move(1, 2, 0);
    bounds.due("nodeAt(0) after add and move", d.nodeAt(0), 0);
    d.remove(2);
    bounds.due("nodeAt(0) after remove", d.nodeAt(0), 0);
    bounds.due("add, 0 not being free", d.add(0, 0, 0), 1);
  }

  private void places() {
    bounds.sentence(TERMS, "The children of a node stand in a row, at the places 0, 1, 2, ..");
    DocumentPaths d = new DocumentPaths();
    row(d, "");
    d.add(0, 0, 0);
    d.add(0, 0, 0);
    d.add(0, 1, 0);
    d.add(0, 3, 0);
    row(d, "2 3 1 4");
    d.remove(3);
    row(d, "2 1 4");
    d.move(2, 0, 2);
    row(d, "1 4 2");
    d.move(4, 1, 0);
    row(d, "1 2");
    d.copy(1, 0, 1);
    row(d, "1 3 2");
    bounds.due("the last of 31", Trees.wide().childAt(0, 30), 31);
    bounds.due("behind the last of 31", Trees.wide().childAt(0, 31), -1);
  }

  private void row(DocumentPaths d, String children) {
    bounds.alike("the children of 0", Trees.children(d, 0), children);
    bounds.due("place -1", d.childAt(0, -1), -1);
  }

  private void below() {
    bounds.sentence(
        TERMS,
        "A node is BELOW another one if it is a child of that one, or a child of a node that is below that one");
    DocumentPaths d = small("AXIS 3");
    bounds.due("a child", d.related(0, 3), 1);
    bounds.due("a child of a child", d.related(0, 7), 1);
    bounds.due("a child of a child of a child", d.related(0, 6), 1);
    bounds.due("itself", d.related(1, 1), 0);
    bounds.due("its parent", d.related(1, 0), 0);
    bounds.due("the next in the row", d.related(1, 2), 0);
    bounds.due("a child of the next but one", d.related(1, 7), 0);
    bounds.due("a child of the one before", d.related(2, 5), 0);
    bounds.due("31 levels below", deep("AXIS 3").related(0, 31), 1);
    bounds.due("the last below the one before", deep("AXIS 3").related(30, 31), 1);
  }

  private void above() {
    bounds.sentence(TERMS, "then that one is ABOVE it");
    bounds.due("above and below, turned", small("AXIS 4, AXIS 3, TURN").same(), 1);
    bounds.due("above and below", small("AXIS 4, AXIS 3").same(), 0);
    bounds.due("of a row of 32", deep("AXIS 4, AXIS 3, TURN").same(), 1);
    bounds.alike("above the root", Trees.selection(small("AXIS 4"), 0), "");
    bounds.alike("above 6", Trees.selection(small("AXIS 4"), 6), "0 1 5");
    bounds.due("31 levels above", deep("AXIS 4").related(31, 0), 1);
  }

  private void documentOrder() {
    bounds.sentence(
        TERMS,
        "DOCUMENT ORDER: a node comes before all nodes below it, and of two children of one node the one at the"
            + " lesser place comes, with all nodes below it, before the other one and all nodes below that");
    DocumentPaths d = Trees.small();
    order(d, "0 1 4 5 6 2 3 7");
    d.move(1, 0, 2);
    order(d, "0 2 3 7 1 4 5 6");
    d.move(5, 1, 0);
    order(d, "0 2 3 7 1 5 6 4");
    d.move(0, 0, 0);
    order(d, "0 2 3 7 1 5 6 4");
    d.remove(3);
    order(d, "0 2 1 5 6 4");
    d.copy(1, 0, 0);
    order(d, "0 3 7 8 9 2 1 5 6 4");
    order(new DocumentPaths(), "0");
  }

  private void order(DocumentPaths d, String want) {
    StringBuilder text = new StringBuilder();
    for (int rank = 0; rank < d.nodes(); rank++) {
      text.append(rank == 0 ? "" : " ").append(d.nodeAt(rank));
    }
    bounds.alike("the document order", text.toString(), want);
  }

  private void later() {
    bounds.sentence(
        TERMS, "A node y is LATER than a node x if y comes after x in document order and is not below x");
    bounds.alike("later than the root", Trees.selection(small("AXIS 7"), 0), "");
    bounds.alike("later than 1", Trees.selection(small("AXIS 7"), 1), "2 3 7");
    bounds.alike("later than 4", Trees.selection(small("AXIS 7"), 4), "5 6 2 3 7");
    bounds.alike("later than 6", Trees.selection(small("AXIS 7"), 6), "2 3 7");
    bounds.alike("later than the last", Trees.selection(small("AXIS 7"), 7), "");
    bounds.due("in a row of 32", deep("AXIS 7").pairs(), 0);
    bounds.due("later than the first of 31", wide("AXIS 7").selected(1), 30);
    bounds.due("later than the last of 31", wide("AXIS 7").selected(31), 0);
  }

  private void earlier() {
    bounds.sentence(TERMS, "it is EARLIER than x if x is later than it");
    bounds.due("earlier and later, turned", small("AXIS 8, AXIS 7, TURN").same(), 1);
    bounds.alike("earlier than the first child", Trees.selection(small("AXIS 8"), 1), "");
    bounds.alike("earlier than 7", Trees.selection(small("AXIS 8"), 7), "1 4 5 6 2");
    bounds.alike("earlier than 6", Trees.selection(small("AXIS 8"), 6), "4");
    bounds.due("in a row of 32", deep("AXIS 8").pairs(), 0);
    bounds.due("earlier than the last of 31", wide("AXIS 8").selected(31), 30);
    for (int x = 0; x < 8; x++) {
      for (int y = 0; y < 8; y++) {
        int found = 0;
        for (int axis : AXES_THAT_PART_ALL_PAIRS) {
          found += small("AXIS " + axis).related(x, y);
        }
        bounds.due("itself, below, above, later, earlier: of " + x + " and " + y, found, 1);
      }
    }
  }

  private void eightEntries() {
    bounds.sentence(TERMS, "THE QUERY is a stack of at most 8 ENTRIES, put together by TOKENS");
    DocumentPaths d = Trees.small();
    for (int entries = 1; entries <= 8; entries++) {
      bounds.due("AXIS 0", Scenes.put(d, "AXIS 0"), entries);
    }
    bounds.due("AXIS 0, a ninth", Scenes.put(d, "AXIS 0"), -4);
    bounds.due("TAG 0, a ninth", Scenes.put(d, "TAG 0"), -4);
    bounds.due("LEAST 0, a ninth", Scenes.put(d, "LEAST 0"), -4);
    bounds.due("clearQuery()", d.clearQuery(), 8);
    for (String path : ONE_OF_EACH_PATH) {
      bounds.due(path + " in the last room", wide(fillingFor(path) + path).pairs(), wide(path).pairs());
    }
    for (String condition : ONE_OF_EACH_CONDITION) {
      String tokens = fillingFor(condition) + condition;
      bounds.due(condition + " in the last room", wide(tokens).holders(), wide(condition).holders());
    }
  }

  /** Entries that leave room, of the 8, just for those that the tokens put ahead of their last one. */
  private static String fillingFor(String tokens) {
    return "AXIS 3, ".repeat(tokens.split(", ").length == 3 ? 6 : 7);
  }

  private void pathOrCondition() {
    bounds.sentence(TERMS, "An entry is a PATH or a CONDITION");
    for (String path : ONE_OF_EACH_PATH) {
      bounds.isTrue(path + " is a path", small(path).pairs() >= 0 && small(path).holders() == -1);
    }
    for (String condition : ONE_OF_EACH_CONDITION) {
      bounds.isTrue(condition + " is a condition", small(condition).holders() >= 0 && small(condition).pairs() == -1);
    }
  }

  private void treeAsItIsNow() {
    bounds.sentence(
        TERMS,
        "A path stands for a set of PAIRS (x, y) of nodes, a condition for a set of nodes: always of the tree as it is"
            + " now");
    DocumentPaths path = Scenes.with(new DocumentPaths(), "AXIS 3");
    bounds.due("pairs() of 1 node", path.pairs(), 0);
    path.add(0, 0, 1);
    bounds.due("pairs() after add", path.pairs(), 1);
    path.copy(0, 1, 0);
    bounds.due("pairs() after copy", path.pairs(), 6);
    path.move(3, 0, 0);
    bounds.due("pairs() after move", path.pairs(), 4);
    path.remove(1);
    bounds.due("pairs() after remove", path.pairs(), 1);
    DocumentPaths condition = small("TAG 1, LEAST 10, AND, NOT");
    bounds.alike("the nodes", Trees.holding(condition), "0 2 4 5 7");
    condition.label(1, 0);
    bounds.alike("the nodes after label", Trees.holding(condition), "0 1 2 4 5 7");
    condition.mark(3, 9);
    bounds.alike("the nodes after mark", Trees.holding(condition), "0 1 2 3 4 5 7");
    condition.remove(5);
    bounds.alike("the nodes after remove", Trees.holding(condition), "0 1 2 3 4 7");
  }

  private void entriesFollowFromTokens() {
    bounds.sentence(
        TERMS, "What an entry is follows from its token and from the entries that the token took off the stack");
    String under = "AXIS 4, TAG 2, AXIS 1, ";
    bounds.due("JOIN of two over three others", small(under + "AXIS 1, AXIS 1, JOIN").pairs(), 4);
    bounds.due("AND of two over three others", small(under + "TAG 1, LEAST 20, AND").holders(), 1);
    DocumentPaths d = small(under + "AXIS 1, AXIS 1, JOIN");
    Scenes.put(d, "BOTH");
    bounds.due("BOTH with the entry under it", d.pairs(), 0);
    Scenes.put(d, "HAS 1, OR");
    bounds.alike("OR with the entry under that", Trees.holding(d), "2 5");
    Scenes.put(d, "WHERE");
    bounds.due("WHERE of the lowest entry", d.pairs(), 1);
    bounds.alike("what it selects", Trees.selection(d, 6), "5");
  }

  private void whatIsTakenOff() {
    bounds.sentence(
        TERMS,
        "The token kinds, P and Q being paths, C and D conditions, with (P Q) naming what is taken off, the last one"
            + " named being the top:");
    bounds.due("WITHOUT, the top being the lesser path", small("AXIS 3, AXIS 1, WITHOUT").pairs(), 5);
    bounds.due("WITHOUT, the top being the greater path", small("AXIS 1, AXIS 3, WITHOUT").pairs(), 0);
    bounds.alike("JOIN, the top being 5", Trees.selection(small("AXIS 1, AXIS 5, JOIN"), 0), "2 3");
    bounds.alike("JOIN, the top being 1", Trees.selection(small("AXIS 5, AXIS 1, JOIN"), 0), "");
    bounds.due("WHERE, the top being the condition", Scenes.put(Trees.small(), "AXIS 1, TAG 1, WHERE"), 1);
    bounds.due("WHERE, the top being the path", Scenes.put(Trees.small(), "TAG 1, AXIS 1, WHERE"), -3);
  }

  private void watchSelects() {
    bounds.sentence(
        TERMS,
        "A WATCH keeps a path and a node: it SELECTS all nodes y such that (that node, y) is in the path, by the tree"
            + " as it is at any time");
    DocumentPaths d = small("AXIS 3");
    d.watch(0, 1);
    watched(d, 0, "4 5 6");
    d.add(6, 0, 0);
    watched(d, 0, "4 5 6 8");
    d.move(1, 3, 0);
    watched(d, 0, "4 5 6 8");
    d.move(5, 2, 0);
    watched(d, 0, "4");
    d.copy(5, 1, 0);
    watched(d, 0, "9 10 11 4");
    d.remove(10);
    watched(d, 0, "9 4");
    d.clearQuery();
    Scenes.put(d, "AXIS 3, TAG 7, WHERE");
    d.watch(1, 0);
    watched(d, 1, "");
    d.label(4, 7);
    watched(d, 1, "4");
    d.clearQuery();
    Scenes.put(d, "AXIS 0, LEAST 99, WHERE");
    d.watch(2, 0);
    watched(d, 2, "");
    d.mark(0, 99);
    watched(d, 2, "0");
  }

  private void watched(DocumentPaths d, int slot, String want) {
    bounds.alike("what watch " + slot + " selects", Trees.watchedBy(d, slot), want);
  }

  private void threeWatches() {
    bounds.sentence(TERMS, "There are three, with the numbers 0 to 2");
    bounds.range("watch", Scenes::pathOnTop, (d, slot) -> d.watch(slot, 0), 0, 2, -1);
    DocumentPaths d = Trees.small();
    for (int slot = 0; slot < 3; slot++) {
      d.clearQuery();
      Scenes.put(d, "AXIS " + (slot + 1));
      d.watch(slot, 1);
    }
    d.mark(0, 1);
    watched(d, 0, "4 5");
    watched(d, 1, "0");
    watched(d, 2, "4 5 6");
  }

  private void ends(DocumentPaths d, int slot, int taken, int lost) {
    d.remove(taken);
    bounds.due("watched, its node taken out", d.watched(slot, 0), -2);
    bounds.due("lost", d.lost(slot), lost);
    bounds.due("gained", d.gained(slot), 0);
    d.mark(0, 33);
    bounds.due("watched, an edit later", d.watched(slot, 0), -2);
    bounds.due("lost, an edit later", d.lost(slot), 0);
    bounds.due("gained, an edit later", d.gained(slot), 0);
  }

  private void nodeOfWatchTakenOut() {
    bounds.sentence(
        TERMS,
        "When the node of a watch is taken out by remove (itself or with a node above it), the watch selects nothing"
            + " from then on until it is set anew (also when its number is given to another node)");
    for (int slot = 0; slot < 3; slot++) {
      DocumentPaths d = small("AXIS 1, AXIS 2, EITHER, REPEAT");
      d.watch(slot, 5);
      ends(d, slot, 5, 8);
      bounds.due("set anew", d.watch(slot, 1), 6);
      watched(d, slot, "0 1 4 2 3 7");
      d.add(0, 0, 0);
      watched(d, slot, "0 5 1 4 2 3 7");
    }
    DocumentPaths stays = small("AXIS 4");
    stays.watch(0, 5);
    stays.remove(6);
    watched(stays, 0, "0 1");
    stays.remove(4);
    watched(stays, 0, "0 1");
    stays.remove(3);
    watched(stays, 0, "0 1");
    stays.move(5, 2, 0);
    watched(stays, 0, "0 2");
    stays.remove(5);
    watched(stays, 0, "");
  }

  private void nodeOfWatchTakenOutFromAbove() {
    bounds.sentence(TERMS, "(itself or with a node above it)");
    for (int above : new int[] {5, 1}) {
      for (int slot = 0; slot < 3; slot++) {
        DocumentPaths d = small("AXIS 0");
        d.watch(slot, 6);
        ends(d, slot, above, 1);
      }
    }
    DocumentPaths deep = deep("AXIS 0, AXIS 4, EITHER");
    deep.watch(1, 31);
    ends(deep, 1, 1, 32);
  }

  private void numberOfWatchGivenAgain() {
    bounds.sentence(TERMS, "(also when its number is given to another node)");
    for (int slot = 0; slot < 3; slot++) {
      DocumentPaths added = small("AXIS 4");
      added.watch(slot, 5);
      ends(added, slot, 5, 2);
      bounds.due("add, with its number", added.add(1, 1, 2), 5);
      givenAgain(added, slot);
      DocumentPaths copied = small("AXIS 4");
      copied.watch(slot, 2);
      ends(copied, slot, 2, 1);
      bounds.due("copy, with its number", copied.copy(3, 0, 0), 2);
      givenAgain(copied, slot);
    }
    DocumentPaths below = small("AXIS 4");
    below.watch(0, 6);
    ends(below, 0, 1, 3);
    for (int number : new int[] {1, 4, 5, 6}) {
      bounds.due("add", below.add(0, 0, 0), number);
    }
    givenAgain(below, 0);
    bounds.due("set anew to that number", below.watch(0, 6), 1);
    watched(below, 0, "0");
  }

  private void givenAgain(DocumentPaths d, int slot) {
    bounds.due("watched", d.watched(slot, 0), -2);
    bounds.due("gained", d.gained(slot), 0);
    bounds.due("lost", d.lost(slot), 0);
    d.mark(0, 44);
    bounds.due("watched, an edit later", d.watched(slot, 0), -2);
    bounds.due("gained, an edit later", d.gained(slot), 0);
  }

  private void edits() {
    bounds.sentence(
        TERMS,
        "EDITS are the calls add, remove, move, copy, label and mark that are not refused (also if they change"
            + " nothing)");
    for (int edit = 0; edit < 8; edit++) {
      DocumentPaths d = small("AXIS 1, TAG 5, WHERE");
      d.watch(0, 0);
      d.label(1, 5);
      bounds.due("gained(0)", d.gained(0), 1);
      bounds.isTrue("edit " + edit + " is not refused", makeEdit(d, edit) >= 0);
      bounds.due("gained(0) after edit " + edit, d.gained(0), 0);
      d.label(1, 0);
      bounds.due("lost(0)", d.lost(0), 1);
      bounds.isTrue("edit " + edit + " is not refused", makeEdit(d, edit) >= 0);
      bounds.due("lost(0) after edit " + edit, d.lost(0), 0);
    }
  }

  /** An edit that leaves what the watch of the test selects, the last three of them all of the tree. */
  private static int makeEdit(DocumentPaths d, int edit) {
    return switch (edit) {
      case 0 -> d.add(3, 0, 0);
      case 1 -> d.remove(d.childAt(1, 0));
      case 2 -> d.move(7, 2, 0);
      case 3 -> d.copy(7, 7, 0);
      case 4 -> d.label(7, 7 - d.tagOf(7));
      case 5 -> d.move(1, 0, 0);
      case 6 -> d.label(2, 2);
      default -> d.mark(2, 20);
    };
  }

  private void refusedCalls() {
    bounds.sentence(TERMS, "A refused call of any kind changes nothing");
    bounds.unchanged("add", Scenes::wide, d -> d.add(0, 0, 0), -4);
    bounds.unchanged("remove", Scenes::wide, d -> d.remove(0), -2);
    bounds.unchanged("move", Scenes::deep, d -> d.move(1, 31, 0), -2);
    bounds.unchanged("copy", Scenes::deep, d -> d.copy(1, 31, 0), -4);
    bounds.unchanged("label", Scenes::wide, d -> d.label(31, 8), -3);
    bounds.unchanged("mark", Scenes::wide, d -> d.mark(31, 100), -3);
    bounds.unchanged("nodeAt", Scenes::wide, d -> d.nodeAt(32), -1);
    bounds.unchanged("childAt", Scenes::wide, d -> d.childAt(0, 31), -1);
    bounds.unchanged("tagOf", Scenes::wide, d -> d.tagOf(32), -1);
    bounds.unchanged("valueOf", Scenes::wide, d -> d.valueOf(32), 100);
    bounds.unchanged("token, no kind", Scenes::wide, d -> d.token(16, 0), -1);
    bounds.unchanged("token, 24 put", () -> wideWithMore("TURN, ".repeat(21)), d -> d.token(5, 0), -2);
    bounds.unchanged("token, no condition", Scenes::wide, d -> d.token(12, 0), -3);
    bounds.unchanged("token, 8 entries", () -> wideWithMore("AXIS 1, ".repeat(5)), d -> d.token(0, 0), -4);
    bounds.unchanged("select", Scenes::wide, d -> d.select(31, 0), -2);
    bounds.unchanged("selected", Scenes::wide, d -> d.selected(32), -1);
    bounds.unchanged("related", Scenes::wide, d -> d.related(0, 32), -1);
    bounds.unchanged("pairs", () -> wideWithMore("TAG 1"), DocumentPaths::pairs, -1);
    bounds.unchanged("holds", Scenes::wide, d -> d.holds(0), -1);
    bounds.unchanged("holders", Scenes::wide, DocumentPaths::holders, -1);
    bounds.unchanged("same", () -> wideWithMore("TAG 1"), DocumentPaths::same, -1);
    bounds.unchanged("watch, no slot", Scenes::wide, d -> d.watch(3, 0), -1);
    bounds.unchanged("watch, no path", () -> wideWithMore("TAG 1"), d -> d.watch(0, 0), -2);
    bounds.unchanged("watched, no slot", Scenes::wide, d -> d.watched(3, 0), -1);
    bounds.unchanged("watched, never set", Scenes::wide, d -> d.watched(2, 0), -1);
    bounds.unchanged("gained", Scenes::wide, d -> d.gained(3), 0);
    bounds.unchanged("lost", Scenes::wide, d -> d.lost(3), 0);
  }

  private static DocumentPaths wideWithMore(String tokens) {
    return Scenes.with(Scenes.wide(), tokens);
  }

  private void orderOfTests() {
    bounds.sentence(TERMS, "The tests of a call are made in the order in which they are named");
    bounds.unchanged("add, four at once", Scenes::wide, d -> d.add(32, 32, 8), -1);
    bounds.unchanged("add, three at once", Scenes::wide, d -> d.add(31, 32, 8), -2);
    bounds.unchanged("add, two at once", Scenes::wide, d -> d.add(31, 0, 8), -3);
    bounds.unchanged("move, three at once", Scenes::small, d -> d.move(0, 8, 1), -1);
    bounds.unchanged("move, two at once", Scenes::small, d -> d.move(0, 7, 1), -2);
    bounds.unchanged("copy, three at once", Scenes::seventeen, d -> d.copy(0, 17, 1), -1);
    bounds.unchanged("copy, two at once", Scenes::seventeen, d -> d.copy(0, 16, 1), -2);
    bounds.unchanged("label, two at once", Scenes::small, d -> d.label(8, 8), -1);
    bounds.unchanged("mark, two at once", Scenes::small, d -> d.mark(8, 100), -1);
    bounds.unchanged("token, -1 and -2 and -4", Scenes::twentyFourTokens, d -> d.token(0, 9), -1);
    bounds.unchanged("token, -2 and -4", Scenes::twentyFourTokens, d -> d.token(0, 8), -2);
    bounds.unchanged("token, -2 and -3", Scenes::twentyFourTokens, d -> d.token(12, 0), -2);
    bounds.unchanged("token, -1 and -3", Scenes::noQuery, d -> d.token(11, 0), -1);
    bounds.unchanged("select, two at once", Scenes::noQuery, d -> d.select(8, -1), -1);
    bounds.unchanged("watch, two at once", Scenes::noQuery, d -> d.watch(3, 8), -1);
    bounds.unchanged("watched, two at once", Scenes::small, d -> d.watched(2, -1), -1);
  }

  private void callsThatChangeNothing() {
    bounds.sentence(
        TERMS,
        "Ahead of the calls `select`, `selected`, `related`, `pairs`, `holds`, `holders`, `same` the interface says:"
            + " The calls below change nothing");
    bounds.unchanged("select(0, 6)", Scenes::small, d -> d.select(0, 6), 7);
    bounds.unchanged("selected(0)", Scenes::small, d -> d.selected(0), 7);
    bounds.unchanged("related(0, 7)", Scenes::small, d -> d.related(0, 7), 1);
    bounds.unchanged("pairs()", Scenes::small, DocumentPaths::pairs, 12);
    bounds.unchanged("holds(1)", Scenes::conditionOnTop, d -> d.holds(1), 1);
    bounds.unchanged("holders()", Scenes::conditionOnTop, DocumentPaths::holders, 3);
    bounds.unchanged("same()", Scenes::small, DocumentPaths::same, 0);
  }

  private void theTop() {
    bounds.sentence(TERMS, "THE TOP is the topmost entry of the query");
    DocumentPaths d = Trees.small();
    int[] pairs = {8, 7, 7, 12, 12, 4, 4, 16};
    for (int axis = 0; axis < 8; axis++) {
      Scenes.put(d, "AXIS " + axis);
      bounds.due("pairs() of entry " + (axis + 1), d.pairs(), pairs[axis]);
    }
    Scenes.put(d, "HAS 1");
    bounds.due("pairs() under a condition", d.pairs(), -1);
    bounds.due("holders()", d.holders(), 5);
  }
}
