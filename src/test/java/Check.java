/** Counts the answers of one test program that are not the ones that are due. */
final class Check {
  private int checks = 0;
  private int wrong = 0;
  private String about = "";

  /** Names what the following answers belong to, for the printed line of a wrong one. */
  void about(String text) {
    about = text;
  }

  void due(String call, int got, int want) {
    checks++;
    if (got != want) {
      wrong++;
      System.out.println(about + ": " + call + " answered " + got + ", due is " + want);
    }
  }

  void isTrue(String what, boolean holds) {
    due(what, holds ? 1 : 0, 1);
  }

  void alike(String what, String got, String want) {
    checks++;
    if (!got.equals(want)) {
      wrong++;
      System.out.println(about + ": " + what + " is '" + got + "', due is '" + want + "'");
    }
  }

  int checks() {
    return checks;
  }

  int wrong() {
    return wrong;
  }

  /** Ends the program with exit code 1 if an answer was wrong, or if none was looked at. */
  void end() {
    System.out.println(checks + " answers looked at, " + wrong + " wrong");
    if (wrong != 0 || checks == 0) {
      System.exit(1);
    }
  }
}
