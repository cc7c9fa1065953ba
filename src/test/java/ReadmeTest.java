/** The example of README.md, call by call: keep the two alike. */
public final class ReadmeTest {
  public static void main(String[] args) {
    SafeCheckout x = new SafeCheckout(24);
    Due.is("size()", x.size(), 24);
    Due.is("write(1, 10)", x.write(1, 10), true);
    Due.is("stage(1)", x.stage(1), true);
    Due.is("commit()", x.commit(), 1);
    x.targetFromHead();
    Due.is("setTarget(1, 11)", x.setTarget(1, 11), true);
    Due.is("write(1, 12)", x.write(1, 12), true);
    refusedSwitch(x);
    forcedSwitch(x);
    Due.end();
  }

  private static void refusedSwitch(SafeCheckout x) {
    int[][] before = Due.trees(x);
    Due.is("switchTo(false)", x.switchTo(false), SafeCheckout.REFUSED_LOCAL);
    Due.is("lastPath()", x.lastPath(), 1);
    Due.sameTrees("switchTo(false)", x, before);
  }

  private static void forcedSwitch(SafeCheckout x) {
    int[][] after = new int[4][24];
    for (int[] tree : after) {
      tree[1] = 11;
    }
    Due.is("switchTo(true)", x.switchTo(true), SafeCheckout.OK);
    Due.is("lastPath()", x.lastPath(), -1);
    Due.sameTrees("switchTo(true)", x, after);
  }
}
