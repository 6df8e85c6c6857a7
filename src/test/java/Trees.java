/** Trees that several tests start from, and a picture of a whole tree to compare. */
final class Trees {
  static final int[] WRONG_NODES = {-1, 32, 33, 40, 64, -32, Integer.MIN_VALUE, Integer.MAX_VALUE};

  private Trees() {}

  /**
   * 0 has the children 1, 2, 3; 1 has 4, 5; 5 has 6; 3 has 7. Document order: 0 1 4 5 6 2 3 7. Tags
   * and values: 1 (1, 10), 2 (2, 20), 3 (1, 10), 4 (3, -5), 5 (2, 0), 6 (1, 20), 7 (3, -5).
   */
  static DocumentPaths small() {
    DocumentPaths d = new DocumentPaths();
    d.add(0, 0, 1);
    d.add(0, 1, 2);
    d.add(0, 2, 1);
    d.add(1, 0, 3);
    d.add(1, 1, 2);
    d.add(5, 0, 1);
    d.add(3, 0, 3);
    d.mark(1, 10);
    d.mark(2, 20);
    d.mark(3, 10);
    d.mark(4, -5);
    d.mark(6, 20);
    d.mark(7, -5);
    return d;
  }

  /** The root with 31 children, 1 to 31 in this order. */
  static DocumentPaths wide() {
    DocumentPaths d = new DocumentPaths();
    for (int i = 0; i < 31; i++) {
      d.add(0, i, 0);
    }
    return d;
  }

  /** 32 nodes, each the only child of the one before. */
  static DocumentPaths deep() {
    DocumentPaths d = new DocumentPaths();
    for (int i = 0; i < 31; i++) {
      d.add(i, 0, 0);
    }
    return d;
  }

  /** The tree as the calls nodeAt, childAt, tagOf, valueOf and nodes tell it. */
  static String picture(DocumentPaths d) {
    StringBuilder text = new StringBuilder();
    text.append(d.nodes());
    for (int r = 0; r < d.nodes(); r++) {
      int node = d.nodeAt(r);
      text.append(' ').append(node).append(':').append(d.tagOf(node)).append('/').append(d.valueOf(node));
      text.append('(').append(children(d, node)).append(')');
    }
    return text.toString();
  }

  /** The children of a node in the order of their places. */
  static String children(DocumentPaths d, int node) {
    StringBuilder text = new StringBuilder();
    for (int place = 0; d.childAt(node, place) != -1 && place < 40; place++) {
      text.append(place == 0 ? "" : " ").append(d.childAt(node, place));
    }
    return text.toString();
  }

  /** The nodes that the top selects from a node, in the order in which select tells them. */
  static String selection(DocumentPaths d, int node) {
    StringBuilder text = new StringBuilder();
    for (int k = 0; d.select(node, k) >= 0 && k < 40; k++) {
      text.append(k == 0 ? "" : " ").append(d.select(node, k));
    }
    return text.toString();
  }

  /** The nodes that a watch selects, in the order in which watched tells them. */
  static String watchedBy(DocumentPaths d, int slot) {
    StringBuilder text = new StringBuilder();
    for (int k = 0; d.watched(slot, k) >= 0 && k < 40; k++) {
      text.append(k == 0 ? "" : " ").append(d.watched(slot, k));
    }
    return text.toString();
  }

  /** The nodes of the condition at the top, by number. */
  static String holding(DocumentPaths d) {
    StringBuilder text = new StringBuilder();
    for (int node = 0; node < 32; node++) {
      if (d.holds(node) == 1) {
        text.append(text.length() == 0 ? "" : " ").append(node);
      }
    }
    return text.toString();
  }

  /** Puts tokens, each as its kind and its number; answers the last answer. */
  static int put(DocumentPaths d, int... kindsAndNumbers) {
    int answer = 0;
    for (int i = 0; i + 1 < kindsAndNumbers.length; i += 2) {
      answer = d.token(kindsAndNumbers[i], kindsAndNumbers[i + 1]);
    }
    return answer;
  }
}
