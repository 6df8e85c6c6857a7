import java.util.ArrayList;
import java.util.HashSet;
import java.util.LinkedHashMap;
import java.util.List;
import java.util.Map;
import java.util.Set;

/**
 * The document said a second time, with objects, sets and recursion and with no thought of speed: a
 * tree of linked nodes, and entries that are worked out from the words of the document.
 */
final class Model {
  private static final class Node {
    int number;
    int tag;
    int value;
    Node parent;
    final List<Node> children = new ArrayList<>();
  }

  private record Pair(Node x, Node y) {}

  /** An entry of the query; first is the one named first among what the token took. */
  private record Entry(int kind, int a, Entry first, Entry second) {
    boolean isPath() {
      return kind <= 8;
    }
  }

  private static final class Watch {
    Entry path;
    Node node;
    Set<Integer> before;
  }

  private final Node root = new Node();
  private final List<Entry> stack = new ArrayList<>();
  private int tokens = 0;
  private final Watch[] watches = new Watch[3];

  // ---- the tree

  private void collect(Node node, List<Node> into) {
    into.add(node);
    for (Node child : node.children) {
      collect(child, into);
    }
  }

  private List<Node> order() {
    List<Node> all = new ArrayList<>();
    collect(root, all);
    return all;
  }

  private Node find(int number) {
    for (Node node : order()) {
      if (node.number == number) {
        return node;
      }
    }
    return null;
  }

  private static boolean isBelow(Node low, Node high) {
    return low.parent != null && (low.parent == high || isBelow(low.parent, high));
  }

  private int freeNumber(Set<Integer> alsoTaken) {
    int number = 0;
    while (find(number) != null || alsoTaken.contains(number)) {
      number++;
    }
    return number;
  }

  private static void attach(Node node, Node parent, int place) {
    parent.children.add(place, node);
    node.parent = parent;
  }

  private void beforeEdit() {
    for (Watch watch : watches) {
      if (watch != null) {
        watch.before = numbers(selectedBy(watch));
      }
    }
  }

  int add(int parent, int place, int tag) {
    Node above = find(parent);
    if (above == null) {
      return -1;
    }
    if (place < 0 || place > above.children.size()) {
      return -2;
    }
    if (tag < 0 || tag > 7) {
      return -3;
    }
    if (order().size() == 32) {
      return -4;
    }
    beforeEdit();
    Node node = new Node();
    node.number = freeNumber(Set.of());
    node.tag = tag;
    attach(node, above, place);
    return node.number;
  }

  int remove(int number) {
    Node node = find(number);
    if (node == null) {
      return -1;
    }
    if (node == root) {
      return -2;
    }
    beforeEdit();
    List<Node> gone = new ArrayList<>();
    collect(node, gone);
    node.parent.children.remove(node);
    for (Watch watch : watches) {
      if (watch != null && gone.contains(watch.node)) {
        watch.node = null;
      }
    }
    return gone.size();
  }

  int move(int number, int parent, int place) {
    Node node = find(number);
    Node above = find(parent);
    if (node == null || above == null) {
      return -1;
    }
    if (node == root || above == node || isBelow(above, node)) {
      return -2;
    }
    List<Node> others = new ArrayList<>(above.children);
    others.remove(node);
    if (place < 0 || place > others.size()) {
      return -3;
    }
    beforeEdit();
    node.parent.children.remove(node);
    attach(node, above, place);
    return above.children.size();
  }

  private Node copyOf(Node node, Set<Integer> taken) {
    Node made = new Node();
    made.number = freeNumber(taken);
    taken.add(made.number);
    made.tag = node.tag;
    made.value = node.value;
    for (Node child : node.children) {
      attach(copyOf(child, taken), made, made.children.size());
    }
    return made;
  }

  int copy(int number, int parent, int place) {
    Node node = find(number);
    Node above = find(parent);
    if (node == null || above == null) {
      return -1;
    }
    if (place < 0 || place > above.children.size()) {
      return -2;
    }
    List<Node> copied = new ArrayList<>();
    collect(node, copied);
    if (order().size() + copied.size() > 32) {
      return -4;
    }
    beforeEdit();
    Node made = copyOf(node, new HashSet<>());
    attach(made, above, place);
    return made.number;
  }

  int label(int number, int tag) {
    Node node = find(number);
    if (node == null) {
      return -1;
    }
    if (tag < 0 || tag > 7) {
      return -3;
    }
    beforeEdit();
    int had = node.tag;
    node.tag = tag;
    return had;
  }

  int mark(int number, int value) {
    Node node = find(number);
    if (node == null) {
      return -1;
    }
    if (value < -99 || value > 99) {
      return -3;
    }
    beforeEdit();
    int had = node.value;
    node.value = value;
    return had == value ? 0 : 1;
  }

  int nodes() {
    return order().size();
  }

  int nodeAt(int rank) {
    List<Node> order = order();
    return rank < 0 || rank >= order.size() ? -1 : order.get(rank).number;
  }

  int childAt(int number, int place) {
    Node node = find(number);
    return node == null || place < 0 || place >= node.children.size() ? -1 : node.children.get(place).number;
  }

  int tagOf(int number) {
    Node node = find(number);
    return node == null ? -1 : node.tag;
  }

  int valueOf(int number) {
    Node node = find(number);
    return node == null ? 100 : node.value;
  }

  // ---- the query

  private static boolean inRange(int kind, int a) {
    return switch (kind) {
      case 0 -> a >= 0 && a <= 8;
      case 7 -> a >= -9 && a <= 9 && a != 0;
      case 9 -> a >= 0 && a <= 7;
      case 10 -> a >= -99 && a <= 99;
      case 11 -> a >= 1 && a <= 9;
      default -> kind >= 0 && kind <= 15;
    };
  }

  private static String takes(int kind) {
    return switch (kind) {
      case 0, 9, 10 -> "";
      case 5, 6, 7, 11 -> "P";
      case 12 -> "C";
      case 8 -> "PC";
      case 13, 14 -> "CC";
      default -> "PP";
    };
  }

  int token(int kind, int a) {
    if (!inRange(kind, a)) {
      return -1;
    }
    if (tokens == 24) {
      return -2;
    }
    StringBuilder sorts = new StringBuilder();
    for (Entry entry : stack) {
      sorts.append(entry.isPath() ? 'P' : 'C');
    }
    String takes = takes(kind);
    if (!sorts.toString().endsWith(takes)) {
      return -3;
    }
    if (takes.isEmpty() && stack.size() == 8) {
      return -4;
    }
    Entry second = takes.length() == 2 ? stack.remove(stack.size() - 1) : null;
    Entry first = takes.isEmpty() ? null : stack.remove(stack.size() - 1);
    stack.add(new Entry(kind, a, first, second));
    tokens++;
    return stack.size();
  }

  int clearQuery() {
    int had = stack.size();
    stack.clear();
    tokens = 0;
    return had;
  }

  private boolean onAxis(int axis, Node x, Node y, List<Node> order) {
    boolean inOneRow = x != y && x.parent != null && x.parent == y.parent;
    switch (axis) {
      case 0:
        return x == y;
      case 1:
        return x.children.contains(y);
      case 2:
        return y.children.contains(x);
      case 3:
        return isBelow(y, x);
      case 4:
        return isBelow(x, y);
      case 5:
        return inOneRow && x.parent.children.indexOf(y) > x.parent.children.indexOf(x);
      case 6:
        return inOneRow && x.parent.children.indexOf(y) < x.parent.children.indexOf(x);
      case 7:
        return order.indexOf(y) > order.indexOf(x) && !isBelow(y, x);
      default:
        return order.indexOf(x) > order.indexOf(y) && !isBelow(x, y);
    }
  }

  /** For each node x, in document order, the nodes y of its pairs, in document order. */
  private Map<Node, List<Node>> byX(Set<Pair> pairs) {
    List<Node> order = order();
    Map<Node, List<Node>> found = new LinkedHashMap<>();
    for (Node x : order) {
      List<Node> ys = new ArrayList<>();
      for (Node y : order) {
        if (pairs.contains(new Pair(x, y))) {
          ys.add(y);
        }
      }
      found.put(x, ys);
    }
    return found;
  }

  private Set<Pair> pairsOf(Entry entry) {
    Set<Pair> found = new HashSet<>();
    List<Node> order = order();
    if (entry.kind == 0) {
      for (Node x : order) {
        for (Node y : order) {
          if (onAxis(entry.a, x, y, order)) {
            found.add(new Pair(x, y));
          }
        }
      }
      return found;
    }
    Set<Pair> p = pairsOf(entry.first);
    switch (entry.kind) {
      case 1 -> found.addAll(join(p, pairsOf(entry.second)));
      case 2 -> {
        found.addAll(p);
        found.addAll(pairsOf(entry.second));
      }
      case 3 -> {
        found.addAll(p);
        found.retainAll(pairsOf(entry.second));
      }
      case 4 -> {
        found.addAll(p);
        found.removeAll(pairsOf(entry.second));
      }
      case 5 -> p.forEach(pair -> found.add(new Pair(pair.y, pair.x)));
      case 6 -> {
        order.forEach(x -> found.add(new Pair(x, x)));
        while (found.addAll(join(found, p))) {
          continue;
        }
      }
      case 7 -> byX(p).forEach((x, ys) -> {
        int place = entry.a > 0 ? entry.a : ys.size() + 1 + entry.a;
        if (place >= 1 && place <= ys.size()) {
          found.add(new Pair(x, ys.get(place - 1)));
        }
      });
      default -> {
        Set<Node> kept = nodesOf(entry.second);
        p.stream().filter(pair -> kept.contains(pair.y)).forEach(found::add);
      }
    }
    return found;
  }

  private Set<Pair> join(Set<Pair> p, Set<Pair> q) {
    Map<Node, List<Node>> next = byX(q);
    Set<Pair> found = new HashSet<>();
    for (Pair pair : p) {
      next.get(pair.y).forEach(z -> found.add(new Pair(pair.x, z)));
    }
    return found;
  }

  private Set<Node> nodesOf(Entry entry) {
    Set<Node> found = new HashSet<>();
    switch (entry.kind) {
      case 9 -> order().stream().filter(x -> x.tag == entry.a).forEach(found::add);
      case 10 -> order().stream().filter(x -> x.value >= entry.a).forEach(found::add);
      case 11 -> byX(pairsOf(entry.first)).forEach((x, ys) -> {
        if (ys.size() >= entry.a) {
          found.add(x);
        }
      });
      case 12 -> {
        found.addAll(order());
        found.removeAll(nodesOf(entry.first));
      }
      case 13 -> {
        found.addAll(nodesOf(entry.first));
        found.retainAll(nodesOf(entry.second));
      }
      case 14 -> {
        found.addAll(nodesOf(entry.first));
        found.addAll(nodesOf(entry.second));
      }
      default -> {
        Map<Node, List<Node>> q = byX(pairsOf(entry.second));
        byX(pairsOf(entry.first)).forEach((x, ys) -> {
          if (ys.stream().anyMatch(y -> q.get(x).stream().anyMatch(z -> z.value == y.value))) {
            found.add(x);
          }
        });
      }
    }
    return found;
  }

  // ---- the answers

  private Entry topOfSort(boolean path) {
    if (stack.isEmpty() || stack.get(stack.size() - 1).isPath() != path) {
      return null;
    }
    return stack.get(stack.size() - 1);
  }

  int select(int number, int k) {
    Node node = find(number);
    Entry top = topOfSort(true);
    if (node == null || top == null) {
      return -1;
    }
    List<Node> ys = byX(pairsOf(top)).get(node);
    return k < 0 || k >= ys.size() ? -2 : ys.get(k).number;
  }

  int selected(int number) {
    Node node = find(number);
    Entry top = topOfSort(true);
    return node == null || top == null ? -1 : byX(pairsOf(top)).get(node).size();
  }

  int related(int x, int y) {
    Node from = find(x);
    Node to = find(y);
    Entry top = topOfSort(true);
    if (from == null || to == null || top == null) {
      return -1;
    }
    return pairsOf(top).contains(new Pair(from, to)) ? 1 : 0;
  }

  int pairs() {
    Entry top = topOfSort(true);
    return top == null ? -1 : pairsOf(top).size();
  }

  int holds(int number) {
    Node node = find(number);
    Entry top = topOfSort(false);
    if (node == null || top == null) {
      return -1;
    }
    return nodesOf(top).contains(node) ? 1 : 0;
  }

  int holders() {
    Entry top = topOfSort(false);
    return top == null ? -1 : nodesOf(top).size();
  }

  int same() {
    if (stack.size() < 2) {
      return -1;
    }
    Entry top = stack.get(stack.size() - 1);
    Entry under = stack.get(stack.size() - 2);
    if (top.isPath() != under.isPath()) {
      return -1;
    }
    boolean alike = top.isPath() ? pairsOf(top).equals(pairsOf(under)) : nodesOf(top).equals(nodesOf(under));
    return alike ? 1 : 0;
  }

  // ---- the watches

  private List<Node> selectedBy(Watch watch) {
    return watch.node == null ? List.of() : byX(pairsOf(watch.path)).get(watch.node);
  }

  private static Set<Integer> numbers(List<Node> nodes) {
    Set<Integer> found = new HashSet<>();
    nodes.forEach(node -> found.add(node.number));
    return found;
  }

  int watch(int slot, int number) {
    if (slot < 0 || slot > 2) {
      return -1;
    }
    Node node = find(number);
    Entry top = topOfSort(true);
    if (node == null || top == null) {
      return -2;
    }
    watches[slot] = new Watch();
    watches[slot].path = top;
    watches[slot].node = node;
    return selectedBy(watches[slot]).size();
  }

  int watched(int slot, int k) {
    if (slot < 0 || slot > 2 || watches[slot] == null) {
      return -1;
    }
    List<Node> ys = selectedBy(watches[slot]);
    return k < 0 || k >= ys.size() ? -2 : ys.get(k).number;
  }

  private int change(int slot, boolean gained) {
    if (slot < 0 || slot > 2 || watches[slot] == null || watches[slot].before == null) {
      return 0;
    }
    Set<Integer> now = numbers(selectedBy(watches[slot]));
    Set<Integer> left = new HashSet<>(gained ? now : watches[slot].before);
    left.removeAll(gained ? watches[slot].before : now);
    return left.size();
  }

  int gained(int slot) {
    return change(slot, true);
  }

  int lost(int slot) {
    return change(slot, false);
  }
}
