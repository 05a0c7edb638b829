/** Counts what was asked and what was answered wrongly, for one test's main method. */
final class Check {
  private int asked = 0;
  private int wrong = 0;

  void due(String call, long got, long want) {
    asked++;
    if (got != want) {
      wrong++;
      System.out.println(call + " answered " + got + ", due is " + want);
    }
  }

  void due(String call, boolean got, boolean want) {
    due(call, got ? 1 : 0, want ? 1 : 0);
  }

  /** Tells the outcome and ends the program with exit code 1 if an answer was wrong. */
  void end() {
    System.out.println(asked + " answers, " + wrong + " of them wrong");
    if (wrong != 0 || asked == 0) {
      System.exit(1);
    }
  }
}
