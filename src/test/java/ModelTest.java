import java.util.ArrayList;
import java.util.List;

/**
 * Runs of up to 512 calls, always the same ones, on the class and on the model: each call must answer
 * the same. The runs differ in how large the tree grows and how often an argument is wrong.
 */
public final class ModelTest {
  private static final int RUNS = 400;
  private static final int CALLS = 512;
  private static final int LATER_CALLS = 200;
  private static final int SHOWN = 12;

  private long state;
  private final DocumentPaths program = new DocumentPaths();
  private final Model model = new Model();
  private final int wrongIn1000;
  private final int growth;
  private String call = "";
  private int got;
  private int want;

  private ModelTest(int seed) {
    state = seed;
    wrongIn1000 = new int[] {5, 30, 120}[seed % 3];
    growth = new int[] {30, 70, 110, 150}[seed / 3 % 4];
  }

  public static void main(String[] args) {
    Check check = new Check();
    for (int seed = 0; seed < RUNS && check.wrong() < 5; seed++) {
      new ModelTest(seed).run(seed, check);
    }
    check.end();
  }

  private void run(int seed, Check check) {
    List<String> made = new ArrayList<>();
    for (int i = 0; i < CALLS; i++) {
      makeCall();
      made.add(call + " = " + got);
      check.about("run " + seed + ", call " + i);
      check.due(call, got, want);
      if (got != want) {
        made.subList(Math.max(0, made.size() - SHOWN), made.size()).forEach(System.out::println);
        return;
      }
    }
    // What later calls answer is free, but none of them may throw.
    for (int i = 0; i < LATER_CALLS; i++) {
      makeCall();
    }
  }

  private int upTo(int bound) {
    // A counter of our own, so that the runs are the same with every Java.
    state = state * 6364136223846793005L + 1442695040888963407L;
    return (int) ((state >>> 33) % bound);
  }

  private boolean goesWrong() {
    return upTo(1000) < wrongIn1000;
  }

  private int wild() {
    int[] wild = {-1, 32, 33, 64, -32, -100, 100, 256, Integer.MIN_VALUE, Integer.MAX_VALUE};
    return upTo(3) == 0 ? upTo(32) : wild[upTo(wild.length)];
  }

  private int node() {
    return goesWrong() ? wild() : model.nodeAt(upTo(model.nodes()));
  }

  /** A place among the children of a node, at times the one behind the last. */
  private int place(int node) {
    if (goesWrong()) {
      return wild();
    }
    int count = 0;
    while (model.childAt(node, count) != -1) {
      count++;
    }
    return upTo(count + 1);
  }

  private int tag() {
    return goesWrong() ? wild() : upTo(upTo(3) == 0 ? 8 : 3);
  }

  private int value() {
    return goesWrong() ? wild() : upTo(3) == 0 ? upTo(199) - 99 : upTo(4) - 1;
  }

  private int rank() {
    return goesWrong() ? wild() : upTo(upTo(2) == 0 ? 3 : 32);
  }

  private int slot() {
    return goesWrong() ? wild() : upTo(3);
  }

  private void makeCall() {
    int pick = upTo(400);
    if (pick < growth) {
      makeEdit();
    } else if (pick < 180) {
      makeSmallEdit();
    } else if (pick < 280) {
      makeToken();
    } else if (pick < 330) {
      makeAnswer();
    } else if (pick < 380) {
      makeWatchCall();
    } else {
      makeRead();
    }
  }

  private void told(String text, int answer, int due) {
    call = text;
    got = answer;
    want = due;
  }

  private void makeEdit() {
    int kind = upTo(8);
    int node = node();
    int parent = node();
    int place = place(parent);
    int tag = tag();
    String to = parent + ", " + place + ")";
    if (kind < 4) {
      told("add(" + to + " tag " + tag, program.add(parent, place, tag), model.add(parent, place, tag));
    } else if (kind < 5) {
      told("remove(" + node + ")", program.remove(node), model.remove(node));
    } else if (kind < 7) {
      told("move(" + node + ", " + to, program.move(node, parent, place), model.move(node, parent, place));
    } else {
      told("copy(" + node + ", " + to, program.copy(node, parent, place), model.copy(node, parent, place));
    }
  }

  private void makeSmallEdit() {
    int node = node();
    if (upTo(2) == 0) {
      int tag = tag();
      told("label(" + node + ", " + tag + ")", program.label(node, tag), model.label(node, tag));
    } else {
      int value = value();
      told("mark(" + node + ", " + value + ")", program.mark(node, value), model.mark(node, value));
    }
  }

  private int numberFor(int kind) {
    if (goesWrong()) {
      return wild();
    }
    return switch (kind) {
      case DocumentPaths.AXIS -> upTo(9);
      case DocumentPaths.NTH -> (1 + upTo(upTo(3) == 0 ? 9 : 3)) * (upTo(2) == 0 ? 1 : -1);
      case DocumentPaths.TAG -> tag();
      case DocumentPaths.LEAST -> value();
      case DocumentPaths.HAS -> 1 + upTo(upTo(3) == 0 ? 9 : 3);
      default -> wild();
    };
  }

  private void makeToken() {
    if (upTo(25) == 0) {
      told("clearQuery()", program.clearQuery(), model.clearQuery());
      return;
    }
    int kind = goesWrong() ? wild() : upTo(3) == 0 ? DocumentPaths.AXIS : upTo(16);
    int a = numberFor(kind);
    told("token(" + kind + ", " + a + ")", program.token(kind, a), model.token(kind, a));
  }

  private void makeAnswer() {
    int node = node();
    int other = node();
    int k = rank();
    switch (upTo(7)) {
      case 0 -> told("select(" + node + ", " + k + ")", program.select(node, k), model.select(node, k));
      case 1 -> told("selected(" + node + ")", program.selected(node), model.selected(node));
      case 2 -> told("related(" + node + ", " + other + ")", program.related(node, other), model.related(node, other));
      case 3 -> told("pairs()", program.pairs(), model.pairs());
      case 4 -> told("holds(" + node + ")", program.holds(node), model.holds(node));
      case 5 -> told("holders()", program.holders(), model.holders());
      default -> told("same()", program.same(), model.same());
    }
  }

  private void makeWatchCall() {
    int slot = slot();
    switch (upTo(5)) {
      case 0 -> {
        int node = node();
        told("watch(" + slot + ", " + node + ")", program.watch(slot, node), model.watch(slot, node));
      }
      case 1 -> {
        int k = rank();
        told("watched(" + slot + ", " + k + ")", program.watched(slot, k), model.watched(slot, k));
      }
      case 2, 3 -> told("gained(" + slot + ")", program.gained(slot), model.gained(slot));
      default -> told("lost(" + slot + ")", program.lost(slot), model.lost(slot));
    }
  }

  private void makeRead() {
    int node = node();
    int place = place(node);
    int rank = rank();
    switch (upTo(5)) {
      case 0 -> told("nodes()", program.nodes(), model.nodes());
      case 1 -> told("nodeAt(" + rank + ")", program.nodeAt(rank), model.nodeAt(rank));
      case 2 -> told("childAt(" + node + ", " + place + ")", program.childAt(node, place), model.childAt(node, place));
      case 3 -> told("tagOf(" + node + ")", program.tagOf(node), model.tagOf(node));
      default -> told("valueOf(" + node + ")", program.valueOf(node), model.valueOf(node));
    }
  }
}
