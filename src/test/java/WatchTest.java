/** Promises 22 to 25: watch, watched, gained, lost. */
public final class WatchTest {
  private static final Check check = new Check();

  public static void main(String[] args) {
    watchSets();
    watchRefuses();
    watchKeepsItsPath();
    watchIsSetAnew();
    watched();
    gainedAndLost();
    everyEditCounts();
    refusedEditsDoNotCount();
    noEditSinceSet();
    nodeTakenOut();
    nodeTakenOutAndNumberGivenAgain();
    numbersTellNodesApart();
    watchesDoNotMix();
    longestPaths();
    check.end();
  }

  private static void gainedLost(DocumentPaths d, int slot, int gained, int lost) {
    check.due("gained(" + slot + ")", d.gained(slot), gained);
    check.due("lost(" + slot + ")", d.lost(slot), lost);
  }

  private static void watchSets() {
    check.about("promise 22");
    DocumentPaths d = Trees.small();
    Trees.put(d, 9, 1, 0, 3);
    check.due("watch(0, 0)", d.watch(0, 0), 7);
    check.due("watch(1, 1)", d.watch(1, 1), 3);
    check.due("watch(2, 2), nothing selected", d.watch(2, 2), 0);
    check.alike("watch 0", Trees.watchedBy(d, 0), "1 4 5 6 2 3 7");
    check.alike("watch 1", Trees.watchedBy(d, 1), "4 5 6");
    check.alike("watch 2", Trees.watchedBy(d, 2), "");
    check.due("the query stays", d.clearQuery(), 2);
  }

  private static void watchRefuses() {
    check.about("promise 22, refusals");
    DocumentPaths d = Trees.small();
    check.due("slot -1, no query", d.watch(-1, 40), -1);
    check.due("an empty query", d.watch(0, 0), -2);
    check.due("never set", d.watched(0, 0), -1);
    d.token(0, 3);
    for (int slot : new int[] {-1, 3, 4, Integer.MIN_VALUE, Integer.MAX_VALUE}) {
      check.due("watch(" + slot + ", 0)", d.watch(slot, 0), -1);
      check.due("watch(" + slot + ", 40)", d.watch(slot, 40), -1);
    }
    for (int node : Trees.WRONG_NODES) {
      check.due("watch(0, " + node + ")", d.watch(0, node), -2);
    }
    check.due("no node", d.watch(0, 8), -2);
    check.due("never set", d.watched(0, 0), -1);
    d.watch(0, 1);
    d.token(9, 1);
    check.due("a condition at the top", d.watch(0, 0), -2);
    check.due("a condition at the top, another watch", d.watch(1, 0), -2);
    check.alike("a refused call leaves the watch", Trees.watchedBy(d, 0), "4 5 6");
    check.due("never set", d.watched(1, 0), -1);
  }

  private static void watchKeepsItsPath() {
    check.about("promise 22, what it keeps");
    DocumentPaths d = Trees.small();
    d.token(0, 1);
    d.watch(0, 0);
    d.token(DocumentPaths.TURN, 0);
    check.alike("after a token", Trees.watchedBy(d, 0), "1 2 3");
    d.mark(0, 1);
    check.alike("after a token and an edit", Trees.watchedBy(d, 0), "1 2 3");
    d.clearQuery();
    d.mark(0, 2);
    check.alike("after clearQuery and an edit", Trees.watchedBy(d, 0), "1 2 3");
    Trees.put(d, 9, 1, 0, 2, 0, 4);
    d.add(0, 3, 0);
    check.alike("after other tokens and an edit", Trees.watchedBy(d, 0), "1 2 3 8");
    gainedLost(d, 0, 1, 0);
  }

  private static void watchIsSetAnew() {
    check.about("promise 22, set anew");
    DocumentPaths d = Trees.small();
    d.token(0, 1);
    d.watch(0, 0);
    d.add(0, 0, 0);
    gainedLost(d, 0, 1, 0);
    check.due("to another node", d.watch(0, 1), 2);
    gainedLost(d, 0, 0, 0);
    check.alike("its nodes", Trees.watchedBy(d, 0), "4 5");
    d.remove(4);
    gainedLost(d, 0, 0, 1);
    Trees.put(d, DocumentPaths.REPEAT, 0);
    check.due("to another path", d.watch(0, 1), 3);
    gainedLost(d, 0, 0, 0);
    check.alike("its nodes", Trees.watchedBy(d, 0), "1 5 6");
  }

  private static void watched() {
    check.about("promise 23");
    DocumentPaths d = Trees.small();
    check.due("never set", d.watched(0, 0), -1);
    check.due("never set, k below 0", d.watched(0, -1), -1);
    d.token(0, 3);
    d.watch(1, 1);
    check.due("another one set", d.watched(0, 0), -1);
    check.due("k 0", d.watched(1, 0), 4);
    check.due("k 1", d.watched(1, 1), 5);
    check.due("k 2", d.watched(1, 2), 6);
    for (int k : new int[] {3, -1, 32, Integer.MIN_VALUE, Integer.MAX_VALUE}) {
      check.due("watched(1, " + k + ")", d.watched(1, k), -2);
    }
    for (int slot : new int[] {-1, 3, Integer.MIN_VALUE, Integer.MAX_VALUE}) {
      check.due("watched(" + slot + ", 0)", d.watched(slot, 0), -1);
    }
    d.move(5, 1, 0);
    check.alike("in document order as it is now", Trees.watchedBy(d, 1), "5 6 4");
    gainedLost(d, 1, 0, 0);
  }

  private static void gainedAndLost() {
    check.about("promises 24 and 25");
    DocumentPaths d = Trees.small();
    Trees.put(d, 0, 3, DocumentPaths.NTH, 2);
    d.watch(0, 0);
    check.alike("watch 0", Trees.watchedBy(d, 0), "4");
    d.move(2, 0, 0);
    check.alike("watch 0", Trees.watchedBy(d, 0), "1");
    gainedLost(d, 0, 1, 1);
    d.clearQuery();
    d.token(0, 3);
    d.watch(1, 0);
    d.remove(1);
    gainedLost(d, 1, 0, 4);
    gainedLost(d, 1, 0, 4);
    d.copy(3, 0, 0);
    gainedLost(d, 1, 2, 0);
    d.mark(0, 0);
    gainedLost(d, 1, 0, 0);
    for (int slot : new int[] {-1, 3, Integer.MIN_VALUE, Integer.MAX_VALUE}) {
      gainedLost(d, slot, 0, 0);
    }
    gainedLost(d, 2, 0, 0);
  }

  private static void everyEditCounts() {
    check.about("promises 24 and 25, edits that change nothing");
    for (int edit = 0; edit < 6; edit++) {
      DocumentPaths d = Trees.small();
      Trees.put(d, 0, 1, 9, 1, DocumentPaths.WHERE, 0);
      d.watch(0, 0);
      d.label(2, 1);
      gainedLost(d, 0, 1, 0);
      if (edit == 0) {
        d.label(2, 1);
      } else if (edit == 1) {
        d.mark(2, 20);
      } else if (edit == 2) {
        d.move(2, 0, 1);
      } else if (edit == 3) {
        d.add(7, 0, 0);
      } else if (edit == 4) {
        d.remove(7);
      } else {
        d.copy(6, 6, 0);
      }
      gainedLost(d, 0, 0, 0);
      check.alike("its nodes", Trees.watchedBy(d, 0), "1 2 3");
    }
  }

  private static void refusedEditsDoNotCount() {
    check.about("promises 24 and 25, refused edits");
    DocumentPaths d = Trees.small();
    Trees.put(d, 0, 3, 9, 1, DocumentPaths.WHERE, 0);
    d.watch(0, 0);
    d.label(2, 1);
    d.add(0, 9, 0);
    d.add(0, 0, 8);
    d.add(9, 0, 0);
    d.remove(0);
    d.remove(8);
    d.move(1, 6, 0);
    d.move(1, 0, 3);
    d.copy(1, 0, 4);
    d.copy(1, 8, 0);
    d.label(2, 8);
    d.mark(2, 100);
    d.mark(8, 1);
    gainedLost(d, 0, 1, 0);
    DocumentPaths full = Trees.wide();
    Trees.put(full, 0, 1, 9, 0, DocumentPaths.WHERE, 0);
    full.watch(2, 0);
    full.label(31, 1);
    full.add(0, 0, 0);
    full.copy(1, 0, 0);
    gainedLost(full, 2, 0, 1);
  }

  private static void noEditSinceSet() {
    check.about("promises 24 and 25, no edit since it was set");
    DocumentPaths d = Trees.small();
    d.token(0, 1);
    d.add(0, 0, 0);
    d.watch(0, 0);
    gainedLost(d, 0, 0, 0);
    d.add(0, 0, 0);
    gainedLost(d, 0, 1, 0);
    d.watch(0, 0);
    gainedLost(d, 0, 0, 0);
    d.remove(8);
    gainedLost(d, 0, 0, 1);
    d.watch(0, 0);
    gainedLost(d, 0, 0, 0);
  }

  private static void nodeTakenOut() {
    check.about("a watch whose node is taken out");
    for (int taken : new int[] {5, 1}) {
      DocumentPaths d = Trees.small();
      Trees.put(d, 0, 1, 0, 2, DocumentPaths.EITHER, 0, DocumentPaths.REPEAT, 0);
      d.watch(0, 5);
      d.watch(1, 2);
      check.alike("before", Trees.watchedBy(d, 0), "0 1 4 5 6 2 3 7");
      d.remove(taken);
      check.due("watched(0, 0)", d.watched(0, 0), -2);
      gainedLost(d, 0, 0, 8);
      gainedLost(d, 1, 0, taken == 5 ? 2 : 4);
      d.mark(0, 0);
      gainedLost(d, 0, 0, 0);
    }
    check.about("a watch whose node is moved");
    DocumentPaths d = Trees.small();
    d.token(0, 4);
    d.watch(0, 5);
    d.move(5, 7, 0);
    check.alike("its nodes", Trees.watchedBy(d, 0), "0 3 7");
    gainedLost(d, 0, 2, 1);
  }

  private static void nodeTakenOutAndNumberGivenAgain() {
    check.about("a watch whose node's number is given again");
    for (int slot = 0; slot < 3; slot++) {
      DocumentPaths d = Trees.small();
      d.token(0, 4);
      d.watch(slot, 5);
      d.remove(5);
      check.due("add", d.add(3, 0, 0), 5);
      check.due("watched", d.watched(slot, 0), -2);
      gainedLost(d, slot, 0, 0);
      check.due("copy", d.copy(5, 2, 0), 6);
      gainedLost(d, slot, 0, 0);
      check.due("set anew", d.watch(slot, 5), 2);
      check.alike("its nodes", Trees.watchedBy(d, slot), "0 3");
      d.remove(3);
      gainedLost(d, slot, 0, 2);
      check.due("watched", d.watched(slot, 0), -2);
    }
  }

  private static void numbersTellNodesApart() {
    check.about("nodes are told apart by their numbers");
    DocumentPaths d = Trees.wide();
    d.token(0, 1);
    d.watch(0, 0);
    d.remove(31);
    gainedLost(d, 0, 0, 1);
    check.due("add", d.add(0, 0, 0), 31);
    gainedLost(d, 0, 1, 0);
    d.move(31, 0, 30);
    gainedLost(d, 0, 0, 0);
  }

  private static void watchesDoNotMix() {
    check.about("three watches");
    DocumentPaths d = Trees.small();
    d.token(0, 1);
    d.watch(0, 0);
    d.clearQuery();
    Trees.put(d, 0, 3, 9, 3, DocumentPaths.WHERE, 0);
    d.watch(1, 0);
    d.clearQuery();
    Trees.put(d, 0, 5);
    d.watch(2, 1);
    d.move(4, 0, 3);
    check.alike("watch 0", Trees.watchedBy(d, 0), "1 2 3 4");
    check.alike("watch 1", Trees.watchedBy(d, 1), "7 4");
    check.alike("watch 2", Trees.watchedBy(d, 2), "2 3 4");
    gainedLost(d, 0, 1, 0);
    gainedLost(d, 1, 0, 0);
    gainedLost(d, 2, 1, 0);
    check.alike("the query", Trees.selection(d, 1), "2 3 4");
    d.remove(1);
    check.alike("watch 0", Trees.watchedBy(d, 0), "2 3 4");
    check.alike("watch 2", Trees.watchedBy(d, 2), "");
    gainedLost(d, 0, 0, 1);
    gainedLost(d, 1, 0, 0);
    gainedLost(d, 2, 0, 3);
  }

  private static void longestPaths() {
    check.about("paths of 24 tokens");
    DocumentPaths d = Trees.small();
    for (int slot = 0; slot < 3; slot++) {
      d.clearQuery();
      d.token(0, 1 + slot * 2);
      for (int i = 0; i < 22; i++) {
        d.token(DocumentPaths.TURN, 0);
      }
      d.token(DocumentPaths.NTH, -1);
      check.due("watch", d.watch(slot, 1), 1);
    }
    check.due("watch 0", d.watched(0, 0), 5);
    check.due("watch 1", d.watched(1, 0), 6);
    check.due("watch 2", d.watched(2, 0), 3);
    d.copy(4, 5, 1);
    check.due("watch 0", d.watched(0, 0), 5);
    check.due("watch 1", d.watched(1, 0), 8);
    check.due("watch 2", d.watched(2, 0), 3);
    gainedLost(d, 1, 1, 1);
  }
}
