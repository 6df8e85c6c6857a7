import java.util.function.Function;

/**
 * The ways to look at an object's state. To look further than the calls that change nothing go, a view may
 * edit the object, so each is taken of an object of its own.
 */
enum View {
  TREE(Trees::picture),
  NUMBERS(View::numbers),
  FREE_NUMBERS(View::freeNumbers),
  TOP(View::top),
  STACK(View::stack),
  ROOM_FOR_TOKENS(View::roomForTokens),
  WATCHES(View::watches),
  WATCHES_LATER(View::watchesLater);

  private static final int MOST_NODES = 32;
  private static final int MOST_TOKENS = 24;

  private final Function<DocumentPaths, String> look;

  View(Function<DocumentPaths, String> look) {
    this.look = look;
  }

  String of(DocumentPaths d) {
    return look.apply(d);
  }

  private static String numbers(DocumentPaths d) {
    StringBuilder text = new StringBuilder();
    for (int node = 0; node < MOST_NODES; node++) {
      text.append(d.tagOf(node)).append('/').append(d.valueOf(node)).append('/');
      text.append(d.childAt(node, 0)).append(' ');
    }
    return text.toString();
  }

  private static String freeNumbers(DocumentPaths d) {
    StringBuilder text = new StringBuilder();
    for (int i = 0; i < MOST_NODES; i++) {
      text.append(d.add(0, 0, i % 8)).append(' ');
    }
    return text.append(Trees.picture(d)).toString();
  }

  private static String top(DocumentPaths d) {
    StringBuilder text = new StringBuilder();
    text.append(d.pairs()).append(' ').append(d.holders()).append(' ').append(d.same());
    for (int node = 0; node < MOST_NODES; node++) {
      text.append(' ').append(d.selected(node)).append('/').append(d.select(node, 0));
      text.append('/').append(d.related(node, 0)).append('/').append(d.related(0, node));
      text.append('/').append(d.holds(node));
    }
    return text.toString();
  }

  /** Reads the top and takes it off together with the entry under it, until one entry is left. */
  private static String stack(DocumentPaths d) {
    StringBuilder text = new StringBuilder();
    for (int i = 0; i < MOST_TOKENS; i++) {
      text.append(d.pairs()).append('/').append(d.holders()).append('/').append(d.same()).append(' ');
      int merged = d.token(DocumentPaths.EITHER, 0);
      if (merged < 0) {
        merged = d.token(DocumentPaths.OR, 0);
      }
      if (merged < 0) {
        merged = d.token(DocumentPaths.WHERE, 0);
      }
      if (merged < 0) {
        merged = d.token(DocumentPaths.HAS, 1);
      }
      text.append(merged).append(' ');
    }
    return text.append(d.clearQuery()).toString();
  }

  private static String roomForTokens(DocumentPaths d) {
    String now = countTokens(d);
    int entries = d.clearQuery();
    return now + " " + entries + " " + countTokens(d);
  }

  private static String countTokens(DocumentPaths d) {
    int count = 0;
    int answer = 0;
    while (answer != -2 && count <= MOST_TOKENS) {
      answer = d.token(DocumentPaths.TURN, 0);
      if (answer == -3) {
        answer = d.token(DocumentPaths.NOT, 0);
      }
      if (answer == -3) {
        answer = d.token(DocumentPaths.AXIS, 0);
      }
      count++;
    }
    return count + " tokens to " + answer;
  }

  private static String watches(DocumentPaths d) {
    StringBuilder text = new StringBuilder();
    for (int slot = 0; slot < 3; slot++) {
      text.append(d.watched(slot, -1)).append('(').append(Trees.watchedBy(d, slot)).append(')');
      text.append('+').append(d.gained(slot)).append('-').append(d.lost(slot)).append(' ');
    }
    return text.toString();
  }

  private static String watchesLater(DocumentPaths d) {
    StringBuilder text = new StringBuilder();
    d.mark(0, d.valueOf(0));
    text.append(watches(d)).append("then ");
    d.mark(0, 98);
    text.append(watches(d)).append("then ");
    d.remove(d.childAt(0, 0));
    text.append(watches(d)).append("then ");
    d.copy(0, 0, 0);
    return text.append(watches(d)).toString();
  }
}
