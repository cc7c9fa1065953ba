/** "What it is": each sentence on paths, trees and refusal that names a boundary. */
public final class BoundaryForestTest {
  // The parent of each path, written out from the document; -1 is no parent.
  private static final int[] PARENTS = {
    -1, -1, -1, -1, 0, 0, 0, 0, 1, 1, 1, 1, 2, 2, 2, 2, 3, 3, 3, 3, 4, 4, 4, 4
  };

  public static void main(String[] args) {
    firstPathsHaveNoParent();
    parentOfEveryOtherPath();
    ancestorsGoUpToTheTop();
    descendantsEndBelowN();
    filesBesideOneAnother();
    contentsFromOneToMost();
    treesStayWellFormed();
    Due.end();
  }

  private static boolean above(int p, int q) {
    int parent = PARENTS[q];
    return parent == p || parent >= 0 && PARENTS[parent] == p;
  }

  /** "paths 0..3 have no parent" */
  private static void firstPathsHaveNoParent() {
    Due.about("paths 0..3 have no parent");
    Scene s = new Scene(24).made();
    for (int p = 3; p >= 0; p--) {
      s.writes(p, 5, true);
      s.stages(p, 5);
      s.setsTarget(p, 5, true);
    }
    Scene leaves = new Scene(24).work(19, 1, 23, 1).made();
    leaves.writes(1, 5, true);
    leaves.writes(2, 5, true);
  }

  /** "a path q >= 4 has the parent q/4 - 1": the first and the last path of each four */
  private static void parentOfEveryOtherPath() {
    Due.about("a path q >= 4 has the parent q/4 - 1");
    int[][] families = {{0, 4, 7}, {1, 8, 11}, {2, 12, 15}, {3, 16, 19}, {4, 20, 23}};
    for (int[] family : families) {
      for (int q = family[1]; q <= family[2]; q++) {
        Scene s = new Scene(24).work(q, 1).made();
        int kind = s.x.kind(Scene.WORK, family[0]);
        Due.is("file at " + q + ": kind of " + family[0], kind, SafeCheckout.KIND_DIR);
        s.writes(family[0], 5, false);
      }
    }
    for (int q = 4; q < 24; q++) {
      Scene s = new Scene(24).work(q, 1).made();
      for (int p = 0; p < 4; p++) {
        int kind = above(p, q) ? SafeCheckout.KIND_DIR : SafeCheckout.KIND_ABSENT;
        Due.is("file at " + q + ": kind of " + p, s.x.kind(Scene.WORK, p), kind);
      }
    }
  }

  /** "The proper ancestors of p are its parent, the parent's parent, and so on up to a path below 4." */
  private static void ancestorsGoUpToTheTop() {
    Due.about("the parent, the parent's parent, and so on up to a path below 4");
    for (int q = 20; q < 24; q++) {
      Scene top = new Scene(24).work(0, 1).made();
      top.writes(q, 5, false);
      Scene middle = new Scene(24).work(4, 1).made();
      middle.writes(q, 5, false);
      Scene beside = new Scene(24).work(1, 1, 2, 1, 3, 1, 5, 1, 6, 1, 7, 1).made();
      beside.writes(q, 5, true);
    }
  }

  /** "The proper descendants of p are the paths q < N of which p is a proper ancestor." */
  private static void descendantsEndBelowN() {
    Due.about("the proper descendants of p are the paths q < N");
    for (int paths = 8; paths <= 24; paths++) {
      for (int p = 0; p < paths; p++) {
        SafeCheckout x = new SafeCheckout(paths);
        int leaves = 0;
        for (int q = p + 1; q < paths; q++) {
          boolean leaf = above(p, q) && 4 * (q + 1) >= paths;
          if (leaf) {
            Due.is("write(" + q + ", 1)", x.write(q, 1), true);
            leaves++;
          }
        }
        String call = "N = " + paths + ": delete(" + p + ")";
        int kind = leaves > 0 ? SafeCheckout.KIND_DIR : SafeCheckout.KIND_ABSENT;
        Due.is("N = " + paths + ": kind(WORK, " + p + ")", x.kind(Scene.WORK, p), kind);
        Due.is(call, x.delete(p), leaves);
        Due.is(call + ", then countFiles(WORK)", x.countFiles(Scene.WORK), 0);
      }
    }
    // Path 4 is a leaf with 20 paths, and has one path below it with 21.
    Scene leaf = new Scene(20).work(4, 1).made();
    leaf.writes(20, 5, false);
    leaf.deletes(4, 1, 4);
    Scene one = new Scene(21).work(20, 1).made();
    one.writes(4, 5, false);
    one.deletes(4, 1, 20);
  }

  /** Paths of which neither is above the other: a sibling, a cousin, an uncle and a nephew. */
  private static void filesBesideOneAnother() {
    Due.about("no path holding a file has a proper descendant holding a file");
    for (int p = 0; p < 24; p++) {
      for (int q = 0; q < 24; q++) {
        boolean fits = !above(p, q) && !above(q, p);
        SafeCheckout x = new SafeCheckout(24);
        x.write(p, 1);
        x.setTarget(p, 1);
        Due.is("file at " + p + ": write(" + q + ", 2)", x.write(q, 2), fits);
        Due.is("file at " + p + ": setTarget(" + q + ", 2)", x.setTarget(q, 2), fits);
      }
    }
  }

  /** "0 means no file at that path, a value 1..MAX_CONTENT means a file with that content id" */
  private static void contentsFromOneToMost() {
    Due.about("0 means no file, a value 1..MAX_CONTENT means a file");
    int[] contents = {1, 2, 127, 128, 255, 256, 999, 1000};
    for (int c : contents) {
      Scene s = new Scene(24).head(23, c).index(23, c).work(23, c).target(23, c).made();
      for (int t = 0; t < 4; t++) {
        Due.is("kind(" + t + ", 23) of content " + c, s.x.kind(t, 23), SafeCheckout.KIND_FILE);
        Due.is("kind(" + t + ", 22)", s.x.kind(t, 22), SafeCheckout.KIND_ABSENT);
        Due.is("countFiles(" + t + ")", s.x.countFiles(t), 1);
      }
    }
  }

  /** "Every tree is always well formed ..., and every call keeps this." */
  private static void treesStayWellFormed() {
    Due.about("every tree is always well formed, and every call keeps this");
    // A file in the place of a directory and a directory in the place of a file, in each tree.
    Scene down = new Scene(24).head(0, 1).index(0, 1).work(23, 2).target(0, 1).made();
    down.setsTarget(23, 2, false);
    down.stages(23, 2, 0);
    down.commits(2);
    down.takesTargetFromHead();
    Scene up = new Scene(24).head(23, 1).index(23, 1).work(0, 2).target(23, 1).made();
    up.setsTarget(0, 2, false);
    up.stages(0, 2, 23);
    up.commits(2);
    up.takesTargetFromHead();
    Scene switched = new Scene(24).head(23, 1).index(23, 1).work(23, 1).target(0, 2).made();
    switched.switches(false, Scene.rows(0, 2), Scene.rows(0, 2));
    Scene hidden = new Scene(24).work(23, 1).target(0, 2).made();
    hidden.refuses(SafeCheckout.REFUSED_HIDDEN, 0);
    hidden.switches(true, Scene.rows(0, 2), Scene.rows(0, 2));
  }
}
