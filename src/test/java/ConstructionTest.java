/** Promises 1 and 2: construction, start and size. */
public final class ConstructionTest {
  public static void main(String[] args) {
    sizeIsClamped();
    startIsEmpty();
    sizeNeverChanges();
    objectsAreApart();
    Due.end();
  }

  private static void sizeIsClamped() {
    int[] below = {Integer.MIN_VALUE, Integer.MIN_VALUE + 1, -24, -8, -1, 0, 1, 7};
    for (int paths : below) {
      Due.is("size() of " + paths, new SafeCheckout(paths).size(), 8);
    }
    for (int paths = 8; paths <= 24; paths++) {
      Due.is("size() of " + paths, new SafeCheckout(paths).size(), paths);
    }
    int[] above = {25, 100, 256 + 8, 65536 + 8, Integer.MAX_VALUE};
    for (int paths : above) {
      Due.is("size() of " + paths, new SafeCheckout(paths).size(), 24);
    }
  }

  private static void startIsEmpty() {
    for (int paths = 8; paths <= 24; paths++) {
      SafeCheckout x = new SafeCheckout(paths);
      Due.is("lastPath() at the start", x.lastPath(), -1);
      Due.sameTrees("the start", x, new int[4][paths]);
    }
  }

  private static void sizeNeverChanges() {
    SafeCheckout x = new SafeCheckout(13);
    int[][] before = Due.trees(x);
    x.size();
    Due.sameTrees("size()", x, before);
    x.write(12, 4);
    x.stage(12);
    x.commit();
    x.targetFromHead();
    x.switchTo(true);
    x.delete(2);
    x.preview();
    Due.is("size() after other calls", x.size(), 13);
  }

  private static void objectsAreApart() {
    SafeCheckout x = new SafeCheckout(8);
    SafeCheckout y = new SafeCheckout(20);
    x.write(1, 5);
    y.write(1, 6);
    y.setTarget(1, 7);
    y.preview();
    Due.is("entry of the one", x.entry(SafeCheckout.WORK, 1), 5);
    Due.is("entry of the other", y.entry(SafeCheckout.WORK, 1), 6);
    Due.is("size of the one", x.size(), 8);
    Due.is("lastPath of the one", x.lastPath(), -1);
    Due.is("lastPath of the other", y.lastPath(), 1);
  }
}
