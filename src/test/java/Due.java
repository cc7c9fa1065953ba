/** Counts and prints the answers that are not the ones that are due. */
final class Due {
  private static int wrong = 0;
  private static int shown = 0;
  private static String sentence = "";

  private Due() {}

  /** Names the sentence of the document that the next answers belong to. */
  static void about(String words) {
    sentence = "[" + words + "] ";
    shown = 0;
  }

  static void is(String call, long got, long want) {
    if (got != want) {
      wrong++;
      shown++;
      // A broken class can be wrong in a million rows: the first ones of a sentence tell enough.
      if (shown <= 20) {
        System.out.println(sentence + call + " answered " + got + ", due is " + want);
      }
    }
  }

  static void is(String call, boolean got, boolean want) {
    is(call, got ? 1 : 0, want ? 1 : 0);
  }

  /** All four trees, a row of entries each, so that a change anywhere can be seen. */
  static int[][] trees(SafeCheckout x) {
    int[][] all = new int[4][x.size()];
    for (int t = 0; t < 4; t++) {
      for (int p = 0; p < x.size(); p++) {
        all[t][p] = x.entry(t, p);
      }
    }
    return all;
  }

  static void sameTrees(String call, SafeCheckout x, int[][] want) {
    for (int t = 0; t < 4; t++) {
      for (int p = 0; p < x.size(); p++) {
        is("after " + call + ": entry(" + t + ", " + p + ")", x.entry(t, p), want[t][p]);
      }
    }
  }

  static void end() {
    System.out.println(wrong == 0 ? "all answers are as due" : wrong + " answers are not as due");
    System.exit(wrong == 0 ? 0 : 1);
  }
}
