/** Promises 13 and 14: token and clearQuery, but for what the entries stand for. */
public final class TokenTest {
  private static final int[] TAKES_NOTHING = {DocumentPaths.AXIS, DocumentPaths.TAG, DocumentPaths.LEAST};
  private static final Check check = new Check();

  public static void main(String[] args) {
    wrongKinds();
    ranges();
    otherNumbersAreNotLookedAt();
    sortsTakenAndGiven();
    fullStack();
    fullCount();
    orderOfTests();
    refusedTokensChangeNothing();
    clearQuery();
    check.end();
  }

  private static void wrongKinds() {
    check.about("promise 13, kinds");
    DocumentPaths d = new DocumentPaths();
    for (int kind : new int[] {-1, 16, 17, 100, Integer.MIN_VALUE, Integer.MAX_VALUE}) {
      check.due("token(" + kind + ", 1)", d.token(kind, 1), -1);
    }
    check.due("clearQuery()", d.clearQuery(), 0);
  }

  private static void ranges() {
    check.about("promise 13, numbers");
    range(DocumentPaths.AXIS, 0, 8);
    range(DocumentPaths.NTH, -9, 9);
    range(DocumentPaths.TAG, 0, 7);
    range(DocumentPaths.LEAST, -99, 99);
    range(DocumentPaths.HAS, 1, 9);
    DocumentPaths d = new DocumentPaths();
    d.token(DocumentPaths.AXIS, 0);
    check.due("NTH 0", d.token(DocumentPaths.NTH, 0), -1);
    check.due("NTH -1", d.token(DocumentPaths.NTH, -1), 1);
    check.due("NTH 1", d.token(DocumentPaths.NTH, 1), 1);
  }

  private static void range(int kind, int least, int greatest) {
    for (int a : new int[] {least, greatest}) {
      DocumentPaths d = new DocumentPaths();
      prepare(d, kind);
      check.isTrue("token(" + kind + ", " + a + ") is taken", d.token(kind, a) > 0);
    }
    for (int a : new int[] {least - 1, greatest + 1, Integer.MIN_VALUE, Integer.MAX_VALUE}) {
      DocumentPaths d = new DocumentPaths();
      prepare(d, kind);
      check.due("token(" + kind + ", " + a + ")", d.token(kind, a), -1);
    }
  }

  /** Puts what a kind takes, so that only its number can be wrong. */
  private static void prepare(DocumentPaths d, int kind) {
    String takes = takes(kind);
    for (int i = 0; i < takes.length(); i++) {
      d.token(takes.charAt(i) == 'P' ? DocumentPaths.AXIS : DocumentPaths.TAG, 1);
    }
  }

  private static void otherNumbersAreNotLookedAt() {
    check.about("promise 13, numbers not looked at");
    int[] kinds = {1, 2, 3, 4, 5, 6, 8, 12, 13, 14, 15};
    for (int kind : kinds) {
      for (int a : new int[] {Integer.MIN_VALUE, -100, 0, 100, Integer.MAX_VALUE}) {
        DocumentPaths d = new DocumentPaths();
        prepare(d, kind);
        check.due("token(" + kind + ", " + a + ")", d.token(kind, a), 1);
      }
    }
  }

  /** The sorts that a kind takes, the last one being the top. */
  private static String takes(int kind) {
    switch (kind) {
      case DocumentPaths.AXIS:
      case DocumentPaths.TAG:
      case DocumentPaths.LEAST:
        return "";
      case DocumentPaths.TURN:
      case DocumentPaths.REPEAT:
      case DocumentPaths.NTH:
      case DocumentPaths.HAS:
        return "P";
      case DocumentPaths.NOT:
        return "C";
      case DocumentPaths.WHERE:
        return "PC";
      case DocumentPaths.AND:
      case DocumentPaths.OR:
        return "CC";
      default:
        return "PP";
    }
  }

  private static void sortsTakenAndGiven() {
    check.about("promise 13, sorts");
    String[] stacks = {
      "", "P", "C", "PP", "PC", "CP", "CC", "PPP", "PPC", "PCP", "PCC", "CPP", "CPC", "CCP", "CCC"
    };
    for (int kind = 0; kind <= 15; kind++) {
      for (String stack : stacks) {
        DocumentPaths d = new DocumentPaths();
        for (int i = 0; i < stack.length(); i++) {
          d.token(stack.charAt(i) == 'P' ? DocumentPaths.AXIS : DocumentPaths.TAG, 1);
        }
        String takes = takes(kind);
        boolean fits = stack.endsWith(takes);
        int left = fits ? stack.length() - takes.length() + 1 : stack.length();
        String call = "token(" + kind + ", 1) on '" + stack + "'";
        check.due(call, d.token(kind, 1), fits ? left : -3);
        if (fits) {
          boolean path = kind <= DocumentPaths.WHERE;
          check.isTrue(call + " gives its sort, a path", (d.pairs() >= 0) == path);
          check.isTrue(call + " gives its sort, a condition", (d.holders() >= 0) == !path);
        }
        check.due(call + ", then clearQuery()", d.clearQuery(), left);
      }
    }
  }

  private static void fullStack() {
    check.about("promise 13, 8 entries");
    DocumentPaths d = new DocumentPaths();
    for (int i = 1; i <= 8; i++) {
      check.due("entry " + i, d.token(DocumentPaths.AXIS, i), i);
    }
    for (int kind : TAKES_NOTHING) {
      check.due("a ninth of kind " + kind, d.token(kind, 1), -4);
    }
    check.due("one that takes one", d.token(DocumentPaths.TURN, 0), 8);
    check.due("one that takes two", d.token(DocumentPaths.JOIN, 0), 7);
    check.due("room again", d.token(DocumentPaths.TAG, 0), 8);
    check.due("no room again", d.token(DocumentPaths.TAG, 0), -4);
  }

  private static void fullCount() {
    check.about("promise 13, 24 tokens");
    DocumentPaths d = new DocumentPaths();
    d.token(DocumentPaths.AXIS, 0);
    for (int i = 2; i <= 24; i++) {
      check.due("token " + i, d.token(DocumentPaths.TURN, 0), 1);
    }
    check.due("token 25", d.token(DocumentPaths.TURN, 0), -2);
    check.due("token 25, that takes nothing", d.token(DocumentPaths.AXIS, 0), -2);
    check.due("pairs()", d.pairs(), 1);
    check.due("clearQuery()", d.clearQuery(), 1);
    check.due("a token again", d.token(DocumentPaths.AXIS, 0), 1);
    for (int i = 2; i <= 24; i++) {
      check.due("token " + i + " again", d.token(DocumentPaths.REPEAT, 0), 1);
    }
    check.due("token 25 again", d.token(DocumentPaths.REPEAT, 0), -2);
  }

  private static void orderOfTests() {
    check.about("promise 13, the order of the tests");
    DocumentPaths d = new DocumentPaths();
    check.due("-1 ahead of -3", d.token(DocumentPaths.NTH, 0), -1);
    for (int i = 0; i < 8; i++) {
      d.token(DocumentPaths.AXIS, 0);
    }
    check.due("-1 ahead of -4", d.token(DocumentPaths.AXIS, 9), -1);
    for (int i = 0; i < 16; i++) {
      d.token(DocumentPaths.TURN, 0);
    }
    check.due("-1 ahead of -2", d.token(DocumentPaths.AXIS, 9), -1);
    check.due("-2 ahead of -4", d.token(DocumentPaths.AXIS, 0), -2);
    check.due("-2 ahead of -3", d.token(DocumentPaths.NOT, 0), -2);
  }

  private static void refusedTokensChangeNothing() {
    check.about("promise 13, refused tokens");
    DocumentPaths d = new DocumentPaths();
    for (int i = 0; i < 30; i++) {
      check.due("-3", d.token(DocumentPaths.JOIN, 0), -3);
      check.due("-1", d.token(16, 0), -1);
    }
    for (int i = 1; i <= 8; i++) {
      check.due("entry " + i, d.token(DocumentPaths.AXIS, 0), i);
    }
    for (int i = 0; i < 30; i++) {
      check.due("-4", d.token(DocumentPaths.LEAST, 0), -4);
    }
    for (int i = 9; i <= 24; i++) {
      check.due("token " + i, d.token(DocumentPaths.TURN, 0), 8);
    }
    check.due("-2", d.token(DocumentPaths.TURN, 0), -2);
    check.due("clearQuery()", d.clearQuery(), 8);
  }

  private static void clearQuery() {
    check.about("promise 14");
    DocumentPaths d = Trees.small();
    check.due("an empty query", d.clearQuery(), 0);
    for (int entries = 1; entries <= 8; entries++) {
      for (int i = 0; i < entries; i++) {
        d.token(i % 2 == 0 ? DocumentPaths.AXIS : DocumentPaths.LEAST, 1);
      }
      check.due("with entries", d.clearQuery(), entries);
      check.due("twice", d.clearQuery(), 0);
      check.due("pairs()", d.pairs(), -1);
      check.due("holders()", d.holders(), -1);
      check.due("nothing to take", d.token(DocumentPaths.TURN, 0), -3);
    }
    check.due("the tree stays", d.nodes(), 8);
  }
}
