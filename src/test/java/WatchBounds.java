import java.util.function.Supplier;

/** The sentences of the promises 22 to 25: watch, watched, gained, lost. */
final class WatchBounds {
  private static final String ALL = "AXIS 1, AXIS 2, EITHER, REPEAT";
  // From the root to all nodes while the root has the tag 1, and to none else.
  private static final String ALL_IF_ROOT_IS_1 = "AXIS 0, TAG 1, WHERE, AXIS 0, AXIS 3, EITHER, JOIN";

  private final Bounds bounds;

  private WatchBounds(Bounds bounds) {
    this.bounds = bounds;
  }

  static void look(Bounds bounds) {
    WatchBounds tests = new WatchBounds(bounds);
    tests.watchSets();
    tests.watchKeeps();
    tests.watchSlot();
    tests.watchNoNodeOrNoPath();
    tests.watchAnswer();
    tests.watched();
    tests.watchedNeverSet();
    tests.watchedNotSoMany();
    tests.watchedAnswer();
    tests.watchedChangesNothing();
    tests.gained();
    tests.gainedNone();
    tests.toldApartByNumbers();
    tests.lost();
    tests.lostNone();
    tests.gainedAndLostChangeNothing();
  }

  private void gainedLost(DocumentPaths d, int slot, int gained, int lost) {
    bounds.due("gained(" + slot + ")", d.gained(slot), gained);
    bounds.due("lost(" + slot + ")", d.lost(slot), lost);
  }

  private void watchedBy(DocumentPaths d, int slot, String nodes) {
    bounds.alike("what watch " + slot + " selects", Trees.watchedBy(d, slot), nodes);
  }

  /** The small tree, with a path at the top and this watch set to it and node 0. */
  private static DocumentPaths watching(int slot, String tokens) {
    DocumentPaths d = Scenes.with(Trees.small(), tokens);
    d.watch(slot, 0);
    return d;
  }

  private static DocumentPaths wideWatching(String tokens) {
    DocumentPaths d = Scenes.with(Trees.wide(), tokens);
    d.watch(0, 0);
    return d;
  }

  private void watchSets() {
    bounds.sentence("Promise 22", "Sets a watch, also one that is set, to the top and a node");
    for (int slot = 0; slot < 3; slot++) {
      DocumentPaths d = Scenes.with(Trees.small(), "AXIS 4, AXIS 3");
      d.watch(slot, 1);
      watchedBy(d, slot, "4 5 6");
      d.watch(slot, 3);
      watchedBy(d, slot, "7");
      Scenes.put(d, "AXIS 4");
      d.watch(slot, 6);
      watchedBy(d, slot, "0 1 5");
      d.mark(0, 1);
      watchedBy(d, slot, "0 1 5");
    }
    String tokens = "TAG 0, AXIS 1, AXIS 3";
    for (View view : new View[] {View.TREE, View.FREE_NUMBERS, View.TOP, View.STACK, View.ROOM_FOR_TOKENS}) {
      String unwatched = view.of(Scenes.with(Trees.small(), tokens));
      bounds.alike("all but the watches, " + view, view.of(watching(0, tokens)), unwatched);
    }
  }

  private void watchKeeps() {
    bounds.sentence("Promise 22", "later tokens and clearQuery do not change what it keeps");
    for (int slot = 0; slot < 3; slot++) {
      DocumentPaths d = watching(slot, "AXIS 1");
      Scenes.put(d, "TURN, AXIS 3, JOIN, NTH 1");
      watchedBy(d, slot, "1 2 3");
      d.mark(0, 1);
      watchedBy(d, slot, "1 2 3");
      d.clearQuery();
      watchedBy(d, slot, "1 2 3");
      d.mark(0, 2);
      watchedBy(d, slot, "1 2 3");
      Scenes.put(d, "TAG 1, AXIS 4, AXIS 5, AXIS 6");
      d.add(0, 3, 0);
      watchedBy(d, slot, "1 2 3 8");
    }
    DocumentPaths longest = Scenes.twentyFourTokens();
    longest.watch(1, 7);
    longest.clearQuery();
    longest.mark(0, 0);
    watchedBy(longest, 1, "1 4 5 6 2");
  }

  private void watchSlot() {
    bounds.sentence("Promise 22", "slot is not 0 to 2: -1");
    bounds.range("watch a slot", Scenes::pathOnTop, (d, slot) -> d.watch(slot, 0), 0, 2, -1);
    bounds.refusedBeside("-1 ahead of -2, no node", Scenes::pathOnTop, (d, slot) -> d.watch(slot, 8), 0, 2, -1);
    bounds.refusedBeside("-1 ahead of -2, no query", Scenes::noQuery, (d, slot) -> d.watch(slot, 0), 0, 2, -1);
    bounds.refusedBeside(
        "-1 ahead of -2, no path", Scenes::conditionOnTop, (d, slot) -> d.watch(slot, 0), 0, 2, -1);
  }

  private void watchNoNodeOrNoPath() {
    bounds.sentence("Promise 22", "there is no such node, or the top is no path: -2");
    for (int s = 0; s < 3; s++) {
      int slot = s;
      bounds.range("watch a node of 8", Scenes::pathOnTop, (d, node) -> d.watch(slot, node), 0, 7, -2);
      bounds.range("watch a node of 32", Scenes::wide, (d, node) -> d.watch(slot, node), 0, 31, -2);
      bounds.unchanged(
          "watch one taken out", () -> Scenes.without(Scenes.pathOnTop(), 1), d -> d.watch(slot, 5), -2);
      bounds.unchanged("watch, an empty query", Scenes::noQuery, d -> d.watch(slot, 0), -2);
      bounds.unchanged("watch, a condition at the top", Scenes::conditionOnTop, d -> d.watch(slot, 0), -2);
      bounds.unchanged("watch, a condition of eight", Scenes::eightEntries, d -> d.watch(slot, 0), -2);
      bounds.unchanged("watch, no node and no path", Scenes::noQuery, d -> d.watch(slot, 8), -2);
      bounds.unchanged("watch, ended", () -> Scenes.with(Scenes.endedWatch(), "TAG 1"), d -> d.watch(slot, 0), -2);
      bounds.unchanged("watch the node taken out", Scenes::endedWatch, d -> d.watch(slot, 5), -2);
    }
  }

  private void watchAnswer() {
    bounds.sentence("Promise 22", "Else answers how many nodes it selects now");
    int[] below = {7, 3, 0, 1, 0, 1, 0, 0};
    for (int node = 0; node < below.length; node++) {
      bounds.due("watch(0, " + node + ")", Scenes.pathOnTop().watch(0, node), below[node]);
    }
    bounds.due("all of 32", Scenes.with(Trees.wide(), ALL).watch(2, 31), 32);
    bounds.due("itself", Scenes.with(new DocumentPaths(), "AXIS 0").watch(2, 0), 1);
    DocumentPaths d = watching(1, "AXIS 1");
    bounds.due("set anew to the same", d.watch(1, 0), 3);
    d.add(0, 0, 0);
    bounds.due("set anew after an edit", d.watch(1, 0), 4);
  }

  private void watched() {
    bounds.sentence(
        "Promise 23", "The k-th (0 for the first) in document order of the nodes that a watch selects now");
    for (int slot = 0; slot < 3; slot++) {
      DocumentPaths d = watching(slot, "AXIS 3");
      watchedBy(d, slot, "1 4 5 6 2 3 7");
      d.move(3, 0, 0);
      watchedBy(d, slot, "3 7 1 4 5 6 2");
      d.remove(1);
      watchedBy(d, slot, "3 7 2");
      d.copy(2, 0, 0);
      watchedBy(d, slot, "1 3 7 2");
    }
    DocumentPaths all = wideWatching(ALL);
    for (int k = 0; k < 32; k++) {
      bounds.due("watched(0, " + k + ") of all", all.watched(0, k), k);
    }
  }

  private void watchedNeverSet() {
    bounds.sentence("Promise 23", "slot is not 0 to 2, or this watch was never set: -1");
    Supplier<DocumentPaths> allSet =
        () -> {
          DocumentPaths d = Scenes.pathOnTop();
          d.watch(2, 0);
          d.watch(1, 0);
          d.watch(0, 0);
          return d;
        };
    bounds.range("watched", allSet, (d, slot) -> d.watched(slot, 0), 0, 2, -1);
    bounds.refusedBeside("-1 ahead of -2, k too small", allSet, (d, slot) -> d.watched(slot, -1), 0, 2, -1);
    bounds.refusedBeside("-1 ahead of -2, k too great", allSet, (d, slot) -> d.watched(slot, 40), 0, 2, -1);
    for (int slot = 0; slot < 3; slot++) {
      int other = (slot + 1) % 3;
      int set = slot;
      Supplier<DocumentPaths> oneSet = () -> watching(set, "AXIS 3");
      bounds.unchanged("watched, never set", oneSet, d -> d.watched(other, 0), -1);
      bounds.unchanged("never set, -1 ahead of -2, k too small", oneSet, d -> d.watched(other, -1), -1);
      bounds.unchanged("never set, -1 ahead of -2, k too great", oneSet, d -> d.watched(other, 40), -1);
      DocumentPaths refused = oneSet.get();
      refused.watch(other, 8);
      bounds.due("watched, set by a refused call alone", refused.watched(other, 0), -1);
    }
  }

  private void watchedNotSoMany() {
    bounds.sentence("Promise 23", "there are not so many, or k is below 0: -2");
    for (int s = 0; s < 3; s++) {
      int slot = s;
      bounds.range("the k of 7", () -> watching(slot, "AXIS 3"), (d, k) -> d.watched(slot, k), 0, 6, -2);
      bounds.range("the k of 1", () -> watching(slot, "AXIS 0"), (d, k) -> d.watched(slot, k), 0, 0, -2);
    }
    bounds.range("the k of 32", () -> wideWatching(ALL), (d, k) -> d.watched(0, k), 0, 31, -2);
    for (int k : new int[] {-1, 0, 1}) {
      bounds.unchanged("the k of none, " + k, () -> watching(1, "AXIS 4"), d -> d.watched(1, k), -2);
      bounds.unchanged("the k of one whose node was taken out, " + k, Scenes::endedWatch, d -> d.watched(2, k), -2);
    }
  }

  private void watchedAnswer() {
    bounds.sentence("Promise 23", "Else answers its number");
    bounds.due("itself", watching(0, "AXIS 0").watched(0, 0), 0);
    bounds.due("the last of 31", wideWatching("AXIS 1").watched(0, 30), 31);
  }

  private void watchedChangesNothing() {
    bounds.sentence("Promise 23", "(This call changes nothing.)");
    bounds.unchanged("watched(0, 0)", Scenes::small, d -> d.watched(0, 0), 0);
    bounds.unchanged("watched(1, 0)", Scenes::small, d -> d.watched(1, 0), 1);
    bounds.unchanged("watched(2, 0)", Scenes::small, d -> d.watched(2, 0), -1);
  }

  private void gained() {
    bounds.sentence(
        "Promise 24", "How many nodes the watch selects now that it did not select right before the latest edit");
    DocumentPaths wide = wideWatching(ALL_IF_ROOT_IS_1);
    wide.label(0, 1);
    gainedLost(wide, 0, 32, 0);
    wide.label(0, 1);
    gainedLost(wide, 0, 0, 0);
    DocumentPaths d = watching(1, "AXIS 3, TAG 1, WHERE");
    d.copy(1, 2, 0);
    gainedLost(d, 1, 2, 0);
    d.add(2, 0, 1);
    gainedLost(d, 1, 1, 0);
    d.add(2, 0, 0);
    gainedLost(d, 1, 0, 0);
    DocumentPaths first = watching(2, "AXIS 1, NTH 1");
    first.move(3, 0, 0);
    gainedLost(first, 2, 1, 1);
    first.move(3, 0, 2);
    gainedLost(first, 2, 1, 1);
  }

  private void gainedNone() {
    bounds.sentence(
        "Promise 24", "0 if there was no edit since it was set, or it was never set, or slot is not 0 to 2");
    bounds.due("gained(0), set ahead of the latest edit", Scenes.small().gained(0), 1);
    bounds.unchanged("gained(2), never set", Scenes::small, d -> d.gained(2), 0);
    bounds.refusedBeside("gained", Scenes::small, DocumentPaths::gained, 0, 2, 0);
    for (int slot = 0; slot < 3; slot++) {
      DocumentPaths d = watching(slot, "AXIS 1");
      bounds.due("gained(" + slot + "), edits only ahead of it", d.gained(slot), 0);
      d.add(0, 0, 0);
      bounds.due("gained(" + slot + ")", d.gained(slot), 1);
      d.watch(slot, 0);
      bounds.due("gained(" + slot + "), no edit since it was set anew", d.gained(slot), 0);
      makeRefusedEdits(d);
      bounds.due("gained(" + slot + "), refused edits since it was set anew", d.gained(slot), 0);
      d.add(0, 0, 0);
      makeRefusedEdits(d);
      bounds.due("gained(" + slot + "), refused edits since the latest", d.gained(slot), 1);
    }
  }

  private static void makeRefusedEdits(DocumentPaths d) {
    d.add(31, 0, 0);
    d.remove(0);
    d.move(1, 1, 0);
    d.copy(1, 0, -1);
    d.label(0, 8);
    d.mark(0, 100);
  }

  private void toldApartByNumbers() {
    bounds.sentence("Promise 24", "Nodes are told apart by their numbers");
    DocumentPaths d = watching(0, "AXIS 1");
    d.move(1, 0, 2);
    gainedLost(d, 0, 0, 0);
    watchedBy(d, 0, "2 3 1");
    d.label(1, 7);
    gainedLost(d, 0, 0, 0);
    d.remove(2);
    gainedLost(d, 0, 0, 1);
    bounds.due("add, with the number of before", d.add(0, 0, 7), 2);
    gainedLost(d, 0, 1, 0);
    DocumentPaths first = watching(0, "AXIS 1, NTH 1");
    first.copy(1, 0, 0);
    gainedLost(first, 0, 1, 1);
    first.remove(8);
    gainedLost(first, 0, 1, 1);
    watchedBy(first, 0, "1");
  }

  private void lost() {
    bounds.sentence(
        "Promise 25", "How many nodes the watch selected right before the latest edit that it does not select now");
    DocumentPaths wide = wideWatching(ALL_IF_ROOT_IS_1);
    wide.label(0, 1);
    wide.label(0, 0);
    gainedLost(wide, 0, 0, 32);
    wide.label(0, 0);
    gainedLost(wide, 0, 0, 0);
    DocumentPaths d = watching(1, "AXIS 3, TAG 1, WHERE");
    d.remove(5);
    gainedLost(d, 1, 0, 1);
    d.remove(4);
    gainedLost(d, 1, 0, 0);
    d.label(3, 0);
    gainedLost(d, 1, 0, 1);
    DocumentPaths ended = Scenes.with(Trees.wide(), ALL);
    ended.watch(2, 31);
    ended.remove(31);
    gainedLost(ended, 2, 0, 32);
    DocumentPaths deep = Scenes.with(Trees.deep(), "AXIS 3");
    deep.watch(0, 0);
    deep.remove(1);
    gainedLost(deep, 0, 0, 31);
  }

  private void lostNone() {
    bounds.sentence("Promise 25", "0 as for gained");
    bounds.due("lost(1), set ahead of the latest edit", Scenes.small().lost(1), 1);
    bounds.unchanged("lost(2), never set", Scenes::small, d -> d.lost(2), 0);
    bounds.refusedBeside("lost", Scenes::small, DocumentPaths::lost, 0, 2, 0);
    for (int slot = 0; slot < 3; slot++) {
      DocumentPaths d = Scenes.with(Trees.small(), "AXIS 1");
      d.remove(3);
      d.watch(slot, 0);
      bounds.due("lost(" + slot + "), edits only ahead of it", d.lost(slot), 0);
      d.remove(2);
      bounds.due("lost(" + slot + ")", d.lost(slot), 1);
      d.watch(slot, 0);
      bounds.due("lost(" + slot + "), no edit since it was set anew", d.lost(slot), 0);
      makeRefusedEdits(d);
      bounds.due("lost(" + slot + "), refused edits since it was set anew", d.lost(slot), 0);
      d.remove(1);
      makeRefusedEdits(d);
      bounds.due("lost(" + slot + "), refused edits since the latest", d.lost(slot), 1);
    }
  }

  private void gainedAndLostChangeNothing() {
    bounds.sentence("Promise 24", "(This call changes nothing.)");
    bounds.unchanged("gained(0)", Scenes::small, d -> d.gained(0), 1);
    bounds.unchanged("gained(1)", Scenes::small, d -> d.gained(1), 0);
    bounds.unchanged("gained(2)", Scenes::endedWatch, d -> d.gained(2), 0);
    bounds.sentence("Promise 25", "(This call changes nothing.)");
    bounds.unchanged("lost(0)", Scenes::small, d -> d.lost(0), 0);
    bounds.unchanged("lost(1)", Scenes::small, d -> d.lost(1), 1);
    bounds.unchanged("lost(2)", Scenes::endedWatch, d -> d.lost(2), 2);
  }
}
