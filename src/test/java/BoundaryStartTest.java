/** Promises 1 and 2: each sentence that names a boundary. */
public final class BoundaryStartTest {
  public static void main(String[] args) {
    tooSmallBecomesEight();
    tooLargeBecomesTwentyFour();
    valuesBetweenStay();
    pathsNeverChangesAfterwards();
    treesAreEmptyAtTheStart();
    lastPathIsNoneAtTheStart();
    sizeLiesBetween();
    sizeChangesNothing();
    Due.end();
  }

  /** The object has N paths in what it takes, not only in what size() answers. */
  private static void hasPaths(int made, int paths) {
    SafeCheckout x = new SafeCheckout(made);
    String name = "new SafeCheckout(" + made + ")";
    Due.is(name + ": size()", x.size(), paths);
    Due.is(name + ": entry(WORK, N - 1)", x.entry(Scene.WORK, paths - 1), 0);
    Due.is(name + ": entry(WORK, N)", x.entry(Scene.WORK, paths), -1);
    Due.is(name + ": write(N - 1, 1)", x.write(paths - 1, 1), true);
    Due.is(name + ": write(N, 1)", x.write(paths, 1), false);
  }

  /** "any value below 8 (including negative values and Integer.MIN_VALUE) becomes 8" */
  private static void tooSmallBecomesEight() {
    Due.about("any value below 8 becomes 8");
    int[] values = {7, 6, 1, 0, -1, -7, -8, -9, -16, -24, -25, Integer.MIN_VALUE + 8, Integer.MIN_VALUE};
    for (int value : values) {
      hasPaths(value, 8);
    }
  }

  /** "any value above 24 (including Integer.MAX_VALUE) becomes 24" */
  private static void tooLargeBecomesTwentyFour() {
    Due.about("any value above 24 becomes 24");
    int[] values = {25, 26, 32, 48, 256 + 8, 65536 + 9, Integer.MAX_VALUE - 1, Integer.MAX_VALUE};
    for (int value : values) {
      hasPaths(value, 24);
    }
  }

  /** "values in 8..24 stay as they are" */
  private static void valuesBetweenStay() {
    Due.about("values in 8..24 stay as they are");
    for (int paths = 8; paths <= 24; paths++) {
      hasPaths(paths, paths);
    }
  }

  /** "The result is N, which never changes afterwards." */
  private static void pathsNeverChangesAfterwards() {
    Due.about("N never changes afterwards");
    for (int paths = 8; paths <= 24; paths++) {
      Scene s = Scene.mixed(paths);
      s.x.write(paths, 1);
      s.x.setTarget(paths, 1);
      s.x.delete(0);
      s.x.stage(paths - 1);
      s.x.commit();
      s.x.preview();
      s.x.switchTo(false);
      s.x.targetFromHead();
      s.x.switchTo(true);
      new SafeCheckout(paths == 24 ? 8 : 24).write(7, 1);
      Due.is("size() after other calls", s.x.size(), paths);
      Due.is("entry(WORK, N) after other calls", s.x.entry(Scene.WORK, paths), -1);
      Due.is("entry(WORK, N - 1) is a path still", s.x.entry(Scene.WORK, paths - 1) >= 0, true);
    }
  }

  /** "At the start all four trees are empty: every entry ... is 0 for every path." */
  private static void treesAreEmptyAtTheStart() {
    Due.about("at the start all four trees are empty");
    for (int paths = 8; paths <= 24; paths++) {
      SafeCheckout x = new SafeCheckout(paths);
      Due.sameTrees("the start", x, new int[4][paths]);
      for (int t = 0; t < 4; t++) {
        Due.is("countFiles(" + t + ") at the start", x.countFiles(t), 0);
      }
    }
    // What another object holds is none of a new object's.
    Scene.mixed(24);
    Due.sameTrees("the start beside another object", new SafeCheckout(24), new int[4][24]);
  }

  /** "lastPath() is -1." */
  private static void lastPathIsNoneAtTheStart() {
    Due.about("lastPath() is -1 at the start");
    for (int paths = 8; paths <= 24; paths++) {
      Due.is("lastPath() at the start", new SafeCheckout(paths).lastPath(), -1);
    }
    Due.is("lastPath() of paths too few", new SafeCheckout(Integer.MIN_VALUE).lastPath(), -1);
    Due.is("lastPath() of paths too many", new SafeCheckout(Integer.MAX_VALUE).lastPath(), -1);
    Scene.mixed(24);
    Due.is("lastPath() beside another object", new SafeCheckout(24).lastPath(), -1);
  }

  /** "size() answers N, always a value in 8..24." */
  private static void sizeLiesBetween() {
    Due.about("size() answers N, always a value in 8..24");
    for (int value = -40; value <= 60; value++) {
      int due = value < 8 ? 8 : value > 24 ? 24 : value;
      SafeCheckout x = new SafeCheckout(value);
      Due.is("size() of " + value, x.size(), due);
      Due.is("size() of " + value + " again", x.size(), due);
    }
  }

  /** "It changes nothing." */
  private static void sizeChangesNothing() {
    Due.about("size() changes nothing");
    for (int paths = 8; paths <= 24; paths++) {
      Scene s = Scene.mixed(paths);
      Due.is("size()", s.x.size(), paths);
      s.holds("size()");
    }
  }
}
