/** Promises 12 to 15: entry, kind, status and countFiles. */
public final class LookTest {
  private static final int[] BAD_TREES = {Integer.MIN_VALUE, -4, -1, 4, 5, 6, 7, 100, Integer.MAX_VALUE};
  private static final int ABSENT = SafeCheckout.KIND_ABSENT;
  private static final int FILE = SafeCheckout.KIND_FILE;
  private static final int DIR = SafeCheckout.KIND_DIR;

  public static void main(String[] args) {
    entryTellsEachTree();
    kindTellsFilesAndDirectories();
    statusTellsEveryPair();
    countFilesTellsEachTree();
    wrongInputs();
    lookingChangesNothing();
    Due.end();
  }

  /** HEAD has 3 files, INDEX 4, WORK 2 and TARGET 1; lastPath() is 20. */
  private static SafeCheckout mixed() {
    SafeCheckout x = new SafeCheckout(24);
    int[] committed = {1, 12, 20};
    for (int p : committed) {
      x.write(p, 100 + p);
      x.stage(p);
    }
    x.commit();
    x.write(19, 119);
    x.stage(19);
    x.delete(1);
    x.delete(2);
    x.write(20, 5);
    x.targetFromHead();
    x.setTarget(20, 0);
    Due.is("preview()", x.preview(), SafeCheckout.REFUSED_LOCAL);
    Due.is("lastPath()", x.lastPath(), 20);
    x.setTarget(1, 0);
    return x;
  }

  private static void entryTellsEachTree() {
    SafeCheckout x = mixed();
    int[][] want = new int[4][24];
    want[0][1] = 101;
    want[0][12] = 112;
    want[0][20] = 120;
    want[1][1] = 101;
    want[1][12] = 112;
    want[1][20] = 120;
    want[1][19] = 119;
    want[2][19] = 119;
    want[2][20] = 5;
    want[3][12] = 112;
    Due.sameTrees("the calls", x, want);
  }

  private static void kindTellsFilesAndDirectories() {
    SafeCheckout x = mixed();
    int[][] want = new int[4][24];
    want[0][1] = FILE;
    want[0][2] = DIR;
    want[0][12] = FILE;
    want[0][0] = DIR;
    want[0][4] = DIR;
    want[0][20] = FILE;
    want[1] = want[0].clone();
    want[1][3] = DIR;
    want[1][19] = FILE;
    want[2][3] = DIR;
    want[2][19] = FILE;
    want[2][0] = DIR;
    want[2][4] = DIR;
    want[2][20] = FILE;
    want[3][2] = DIR;
    want[3][12] = FILE;
    for (int t = 0; t < 4; t++) {
      for (int p = 0; p < 24; p++) {
        Due.is("kind(" + t + ", " + p + ")", x.kind(t, p), want[t][p]);
      }
    }
    x.delete(20);
    Due.is("kind of a directory whose last file went", x.kind(SafeCheckout.WORK, 0), ABSENT);
    Due.is("kind of a directory whose last file went", x.kind(SafeCheckout.WORK, 4), ABSENT);
    // Each path alone: its ancestors are directories, every other path is absent.
    for (int p = 0; p < 24; p++) {
      SafeCheckout y = new SafeCheckout(24);
      y.write(p, 1);
      int parent = p >= 4 ? p / 4 - 1 : -1;
      int grandparent = parent >= 4 ? parent / 4 - 1 : -1;
      for (int q = 0; q < 24; q++) {
        int due = q == p ? FILE : q == parent || q == grandparent ? DIR : ABSENT;
        Due.is("file at " + p + ": kind(WORK, " + q + ")", y.kind(SafeCheckout.WORK, q), due);
      }
    }
  }

  private static void statusTellsEveryPair() {
    int[] contents = {0, 1, 2, 1000};
    for (int p = 0; p < 24; p++) {
      for (int h : contents) {
        for (int i : contents) {
          for (int w : contents) {
            SafeCheckout x = new SafeCheckout(24);
            put(x, p, h);
            x.stage(p);
            x.commit();
            put(x, p, i);
            x.stage(p);
            put(x, p, w);
            String call = "status(" + p + ") of " + h + ", " + i + ", " + w;
            Due.is(call, x.status(p), part(h, i) * 4 + part(i, w));
            Due.is("status of an empty path", x.status((p + 1) % 24), 0);
          }
        }
      }
    }
  }

  private static void put(SafeCheckout x, int p, int c) {
    if (c == 0) {
      x.delete(p);
    } else {
      x.write(p, c);
    }
  }

  private static int part(int a, int b) {
    if (a != 0 && b != 0) {
      return a == b ? 0 : 3;
    }
    return (b != 0 ? 1 : 0) + (a != 0 ? 2 : 0);
  }

  private static void countFilesTellsEachTree() {
    SafeCheckout x = mixed();
    int[] want = {3, 4, 2, 1};
    for (int t = 0; t < 4; t++) {
      Due.is("countFiles(" + t + ")", x.countFiles(t), want[t]);
    }
    SafeCheckout full = new SafeCheckout(24);
    for (int p = 23; p >= 5; p--) {
      full.write(p, 1000);
      Due.is("countFiles(WORK)", full.countFiles(SafeCheckout.WORK), 24 - p);
    }
  }

  private static void wrongInputs() {
    SafeCheckout x = mixed();
    int[][] before = Due.trees(x);
    for (int t : BAD_TREES) {
      Due.is("countFiles(" + t + ")", x.countFiles(t), -1);
      for (int p = -1; p <= 24; p++) {
        Due.is("entry(" + t + ", " + p + ")", x.entry(t, p), -1);
        Due.is("kind(" + t + ", " + p + ")", x.kind(t, p), -1);
      }
    }
    for (int paths = 8; paths <= 24; paths++) {
      SafeCheckout y = new SafeCheckout(paths);
      int[] badPaths = {Integer.MIN_VALUE, -24, -1, paths, paths + 1, 24, 96, Integer.MAX_VALUE};
      for (int p : badPaths) {
        Due.is("status(" + p + ")", y.status(p), -1);
        for (int t = 0; t < 4; t++) {
          Due.is("entry(" + t + ", " + p + ")", y.entry(t, p), -1);
          Due.is("kind(" + t + ", " + p + ")", y.kind(t, p), -1);
        }
      }
    }
    Due.sameTrees("wrong inputs", x, before);
    Due.is("lastPath() after wrong inputs", x.lastPath(), 20);
  }

  private static void lookingChangesNothing() {
    SafeCheckout x = mixed();
    int[][] before = Due.trees(x);
    for (int p = 0; p < 24; p++) {
      x.status(p);
      for (int t = 0; t < 4; t++) {
        x.kind(t, p);
        x.entry(t, p);
        x.countFiles(t);
      }
    }
    Due.sameTrees("looking", x, before);
    Due.is("lastPath() after looking", x.lastPath(), 20);
  }
}
