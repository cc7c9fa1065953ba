/** Promises 12 to 15, entry, kind, status and countFiles: each sentence that names a boundary. */
public final class BoundaryLookTest {
  private static final int FILE = SafeCheckout.KIND_FILE;
  private static final int DIR = SafeCheckout.KIND_DIR;
  private static final int ABSENT = SafeCheckout.KIND_ABSENT;

  private static final int[] TREES_TOO_SMALL = {
    -1, -2, -4, Integer.MIN_VALUE, Integer.MIN_VALUE + 1
  };
  // 1 << 29 times 24 wraps around to 0: a tree number that must not be taken for tree 0.
  private static final int[] TREES_TOO_LARGE = {
    4, 5, 6, 7, 8, 24, 1 << 29, Integer.MAX_VALUE - 1, Integer.MAX_VALUE
  };

  public static void main(String[] args) {
    entryOfEveryTree();
    entryOfNoFile();
    entryTreeTooSmall();
    entryTreeTooLarge();
    entryPathTooSmall();
    entryPathTooLarge();
    entryChangesNothing();
    kindOfAFile();
    kindOfADirectory();
    kindOfAnAbsentPath();
    kindOfEveryTree();
    kindTreeTooSmall();
    kindTreeTooLarge();
    kindPathTooSmall();
    kindPathTooLarge();
    kindChangesNothing();
    statusOfEveryPair();
    statusFromNoneToFifteen();
    statusPathTooSmall();
    statusPathTooLarge();
    statusChangesNothing();
    countOfNoFile();
    countOfOneFile();
    countOfAllFilesThatFit();
    countTreeTooSmall();
    countTreeTooLarge();
    countChangesNothing();
    Due.end();
  }

  private static void entryIs(Scene s, int t, int p, int due) {
    Due.is("entry(" + t + ", " + p + ")", s.x.entry(t, p), due);
  }

  private static void kindIs(Scene s, int t, int p, int due) {
    Due.is("kind(" + t + ", " + p + ")", s.x.kind(t, p), due);
  }

  private static void statusIs(Scene s, int p, int due) {
    Due.is("status(" + p + ")", s.x.status(p), due);
  }

  private static void countIs(Scene s, int t, int due) {
    Due.is("countFiles(" + t + ")", s.x.countFiles(t), due);
  }

  /** "entry(t, p) answers the entry of tree t (HEAD, INDEX, WORK or TARGET) at path p" */
  private static void entryOfEveryTree() {
    Due.about("entry: the content id in 1..MAX_CONTENT, of each tree");
    for (int paths = 8; paths <= 24; paths++) {
      for (int p = 0; p < paths; p++) {
        Scene s = new Scene(paths).head(p, 1).index(p, 1000).work(p, 2).target(p, 999).made();
        entryIs(s, 0, p, 1);
        entryIs(s, 1, p, 1000);
        entryIs(s, 2, p, 2);
        entryIs(s, 3, p, 999);
      }
    }
  }

  /** "0 for no file": an empty tree, and a directory */
  private static void entryOfNoFile() {
    Due.about("entry: 0 for no file");
    for (int paths = 8; paths <= 24; paths++) {
      Scene s = new Scene(paths).made();
      for (int t = 0; t < 4; t++) {
        for (int p = 0; p < paths; p++) {
          entryIs(s, t, p, 0);
        }
      }
    }
    Scene deep = new Scene(24).head(23, 1).index(23, 1).work(23, 1).target(23, 1).made();
    for (int t = 0; t < 4; t++) {
      entryIs(deep, t, 0, 0);
      entryIs(deep, t, 4, 0);
      entryIs(deep, t, 22, 0);
    }
  }

  /** "It answers -1 if t is not in 0..3", at the lower end */
  private static void entryTreeTooSmall() {
    Due.about("entry: -1 if t is below 0");
    Scene s = Scene.mixed(24);
    for (int t : TREES_TOO_SMALL) {
      for (int p = -1; p <= 24; p++) {
        entryIs(s, t, p, -1);
      }
    }
    s.holds("entry");
  }

  /** "It answers -1 if t is not in 0..3", at the upper end */
  private static void entryTreeTooLarge() {
    Due.about("entry: -1 if t is above 3");
    Scene s = Scene.mixed(24);
    s.previews(SafeCheckout.REFUSED_STAGED, 1);
    for (int t : TREES_TOO_LARGE) {
      for (int p = -1; p <= 24; p++) {
        entryIs(s, t, p, -1);
      }
    }
    s.holds("entry");
  }

  /** "or p is not in 0..N-1", at the lower end */
  private static void entryPathTooSmall() {
    Due.about("entry: -1 if p is below 0");
    for (int paths = 8; paths <= 24; paths++) {
      Scene s = Scene.mixed(paths);
      for (int t = 0; t < 4; t++) {
        for (int p : Scene.pathsTooSmall()) {
          entryIs(s, t, p, -1);
        }
      }
      s.holds("entry");
    }
  }

  /** "or p is not in 0..N-1", at the upper end */
  private static void entryPathTooLarge() {
    Due.about("entry: -1 if p is N or more");
    for (int paths = 8; paths <= 24; paths++) {
      Scene s = Scene.mixed(paths);
      for (int t = 0; t < 4; t++) {
        for (int p : Scene.pathsTooLarge(paths)) {
          entryIs(s, t, p, -1);
        }
      }
      s.holds("entry");
    }
  }

  /** "It changes nothing." of entry */
  private static void entryChangesNothing() {
    Due.about("entry: it changes nothing");
    Scene s = Scene.mixed(24);
    for (int t = -1; t <= 4; t++) {
      for (int p = -1; p <= 24; p++) {
        s.x.entry(t, p);
        s.holds("entry(" + t + ", " + p + ")");
      }
    }
  }

  /** "KIND_FILE if its entry is not 0" */
  private static void kindOfAFile() {
    Due.about("kind: KIND_FILE if its entry is not 0");
    for (int p = 0; p < 24; p++) {
      Scene s = new Scene(24).head(p, 1).index(p, 1000).work(p, 1).target(p, 1000).made();
      for (int t = 0; t < 4; t++) {
        kindIs(s, t, p, FILE);
      }
    }
  }

  /** "KIND_DIR if its entry is 0 and some proper descendant holds a file in t" */
  private static void kindOfADirectory() {
    Due.about("kind: KIND_DIR if some proper descendant holds a file");
    for (int paths = 8; paths <= 24; paths++) {
      for (int q = 4; q < paths; q++) {
        Scene s = new Scene(paths).head(q, 1).index(q, 1).work(q, 1).target(q, 1).made();
        for (int t = 0; t < 4; t++) {
          kindIs(s, t, q / 4 - 1, DIR);
          kindIs(s, t, 0, q < 8 || q > 19 ? DIR : ABSENT);
        }
      }
    }
  }

  /** "KIND_ABSENT otherwise": an empty tree, a path under a file, and a directory that lost its file */
  private static void kindOfAnAbsentPath() {
    Due.about("kind: KIND_ABSENT otherwise");
    for (int paths = 8; paths <= 24; paths++) {
      Scene s = new Scene(paths).made();
      for (int t = 0; t < 4; t++) {
        for (int p = 0; p < paths; p++) {
          kindIs(s, t, p, ABSENT);
        }
      }
    }
    Scene under = new Scene(24).work(0, 1).made();
    for (int p = 1; p < 24; p++) {
      kindIs(under, Scene.WORK, p, ABSENT);
    }
    Scene lost = new Scene(24).work(23, 1).made();
    lost.deletes(23, 1, 23);
    kindIs(lost, Scene.WORK, 4, ABSENT);
    kindIs(lost, Scene.WORK, 0, ABSENT);
  }

  /** "holds a file in t": each tree has its own directories */
  private static void kindOfEveryTree() {
    Due.about("kind: the kind of p in tree t, and in no other tree");
    Scene s = new Scene(24).head(4, 1).index(8, 1).work(12, 1).target(16, 1).made();
    for (int t = 0; t < 4; t++) {
      for (int u = 0; u < 4; u++) {
        kindIs(s, t, u, t == u ? DIR : ABSENT);
        kindIs(s, t, 4 + 4 * u, t == u ? FILE : ABSENT);
      }
    }
  }

  /** "It answers -1 if t is not in 0..3" of kind, at the lower end */
  private static void kindTreeTooSmall() {
    Due.about("kind: -1 if t is below 0");
    Scene s = Scene.mixed(24);
    for (int t : TREES_TOO_SMALL) {
      for (int p = -1; p <= 24; p++) {
        kindIs(s, t, p, -1);
      }
    }
    s.holds("kind");
  }

  /** "It answers -1 if t is not in 0..3" of kind, at the upper end */
  private static void kindTreeTooLarge() {
    Due.about("kind: -1 if t is above 3");
    Scene s = Scene.mixed(24);
    s.previews(SafeCheckout.REFUSED_STAGED, 1);
    for (int t : TREES_TOO_LARGE) {
      for (int p = -1; p <= 24; p++) {
        kindIs(s, t, p, -1);
      }
    }
    s.holds("kind");
  }

  /** "or p is not in 0..N-1" of kind, at the lower end */
  private static void kindPathTooSmall() {
    Due.about("kind: -1 if p is below 0");
    for (int paths = 8; paths <= 24; paths++) {
      Scene s = Scene.mixed(paths);
      for (int t = 0; t < 4; t++) {
        for (int p : Scene.pathsTooSmall()) {
          kindIs(s, t, p, -1);
        }
      }
      s.holds("kind");
    }
  }

  /** "or p is not in 0..N-1" of kind, at the upper end */
  private static void kindPathTooLarge() {
    Due.about("kind: -1 if p is N or more");
    for (int paths = 8; paths <= 24; paths++) {
      Scene s = Scene.mixed(paths);
      for (int t = 0; t < 4; t++) {
        for (int p : Scene.pathsTooLarge(paths)) {
          kindIs(s, t, p, -1);
        }
      }
      s.holds("kind");
    }
  }

  /** "It changes nothing." of kind */
  private static void kindChangesNothing() {
    Due.about("kind: it changes nothing");
    Scene s = Scene.mixed(24);
    for (int t = -1; t <= 4; t++) {
      for (int p = -1; p <= 24; p++) {
        s.x.kind(t, p);
        s.holds("kind(" + t + ", " + p + ")");
      }
    }
  }

  /** "SAME if a == b; ADDED if a == 0 and b != 0; DELETED if a != 0 and b == 0; MODIFIED otherwise" */
  private static void statusOfEveryPair() {
    Due.about("status: X compares HEAD with INDEX, Y compares INDEX with WORK");
    // Each row: HEAD, INDEX, WORK, and the answer. No file, the least content and the greatest one.
    int[][] rows = {
      {0, 0, 0, 0}, {1, 1, 1, 0}, {1000, 1000, 1000, 0},
      {0, 0, 1, 1}, {0, 0, 1000, 1}, {1, 1, 0, 2}, {1000, 1000, 0, 2}, {1, 1, 1000, 3}, {1000, 1000, 1, 3},
      {0, 1, 1, 4}, {0, 1000, 1000, 4}, {0, 1, 0, 6}, {0, 1, 1000, 7}, {0, 1000, 1, 7},
      {1, 0, 0, 8}, {1000, 0, 0, 8}, {1, 0, 1, 9}, {1, 0, 1000, 9}, {1000, 0, 1000, 9},
      {1, 1000, 1000, 12}, {1000, 1, 1, 12}, {1, 1000, 0, 14}, {1, 1000, 1, 15}, {1, 2, 3, 15}
    };
    for (int[] row : rows) {
      for (int p = 0; p < 24; p++) {
        Scene s = new Scene(24).head(p, row[0]).index(p, row[1]).work(p, row[2]).target(p, 5).made();
        statusIs(s, p, row[3]);
      }
    }
  }

  /** "The answer thus lies in 0..15": the least and the greatest answer, at the first and the last path */
  private static void statusFromNoneToFifteen() {
    Due.about("status: the answer lies in 0..15");
    for (int paths = 8; paths <= 24; paths++) {
      int last = paths - 1;
      Scene s = new Scene(paths).head(last, 1).index(last, 2).work(last, 3).made();
      statusIs(s, last, 15);
      statusIs(s, last - 1, 0);
      statusIs(s, 0, 0);
      Scene first = new Scene(paths).head(0, 1000).index(0, 1).work(0, 999).made();
      statusIs(first, 0, 15);
      statusIs(first, last, 0);
    }
  }

  /** "It answers -1 if p is not in 0..N-1." of status, at the lower end */
  private static void statusPathTooSmall() {
    Due.about("status: -1 if p is below 0");
    for (int paths = 8; paths <= 24; paths++) {
      Scene s = Scene.mixed(paths);
      for (int p : Scene.pathsTooSmall()) {
        statusIs(s, p, -1);
      }
      s.holds("status");
    }
  }

  /** "It answers -1 if p is not in 0..N-1." of status, at the upper end */
  private static void statusPathTooLarge() {
    Due.about("status: -1 if p is N or more");
    for (int paths = 8; paths <= 24; paths++) {
      Scene s = Scene.mixed(paths);
      for (int p : Scene.pathsTooLarge(paths)) {
        statusIs(s, p, -1);
      }
      s.holds("status");
    }
  }

  /** "It changes nothing." of status */
  private static void statusChangesNothing() {
    Due.about("status: it changes nothing");
    Scene s = Scene.mixed(24);
    for (int p = -1; p <= 24; p++) {
      s.x.status(p);
      s.holds("status(" + p + ")");
    }
  }

  /** "a value in 0..N": nothing in the tree */
  private static void countOfNoFile() {
    Due.about("countFiles: 0 of an empty tree");
    for (int paths = 8; paths <= 24; paths++) {
      for (int t = 0; t < 4; t++) {
        countIs(new Scene(paths).made(), t, 0);
      }
    }
    Scene s = new Scene(24).work(23, 1000).made();
    s.deletes(0, 1, 23);
    countIs(s, Scene.WORK, 0);
  }

  /** "the number of paths p < N holding a file (a non-zero entry) in tree t": any one path counts */
  private static void countOfOneFile() {
    Due.about("countFiles: each path p < N counts, in its own tree");
    for (int paths = 8; paths <= 24; paths++) {
      for (int p = 0; p < paths; p++) {
        Scene head = new Scene(paths).head(p, 1).made();
        Scene index = new Scene(paths).index(p, 1000).made();
        Scene work = new Scene(paths).work(p, 1).made();
        Scene target = new Scene(paths).target(p, 1000).made();
        for (int t = 0; t < 4; t++) {
          countIs(head, t, t == 0 ? 1 : 0);
          countIs(index, t, t == 1 ? 1 : 0);
          countIs(work, t, t == 2 ? 1 : 0);
          countIs(target, t, t == 3 ? 1 : 0);
        }
      }
    }
  }

  /** "a value in 0..N": a file at every leaf is all that a well formed tree can hold */
  private static void countOfAllFilesThatFit() {
    Due.about("countFiles: a full tree");
    for (int paths = 8; paths <= 24; paths++) {
      Scene s = new Scene(paths).made();
      int leaves = 0;
      for (int p = 0; p < paths; p++) {
        if (4 * (p + 1) >= paths) {
          leaves++;
          s.x.write(p, leaves);
          s.x.stage(p);
          s.x.setTarget(p, leaves);
        }
        countIs(s, Scene.WORK, leaves);
        countIs(s, Scene.INDEX, leaves);
        countIs(s, Scene.TARGET, leaves);
      }
      countIs(s, Scene.HEAD, 0);
      s.x.commit();
      countIs(s, Scene.HEAD, leaves);
    }
  }

  /** "It answers -1 if t is not in 0..3." of countFiles, at the lower end */
  private static void countTreeTooSmall() {
    Due.about("countFiles: -1 if t is below 0");
    Scene s = Scene.mixed(24);
    for (int t : TREES_TOO_SMALL) {
      countIs(s, t, -1);
    }
    s.holds("countFiles");
  }

  /** "It answers -1 if t is not in 0..3." of countFiles, at the upper end */
  private static void countTreeTooLarge() {
    Due.about("countFiles: -1 if t is above 3");
    Scene s = Scene.mixed(24);
    s.previews(SafeCheckout.REFUSED_STAGED, 1);
    for (int t : TREES_TOO_LARGE) {
      countIs(s, t, -1);
    }
    s.holds("countFiles");
  }

  /** "It changes nothing." of countFiles */
  private static void countChangesNothing() {
    Due.about("countFiles: it changes nothing");
    Scene s = Scene.mixed(24);
    for (int t = -1; t <= 4; t++) {
      s.x.countFiles(t);
      s.holds("countFiles(" + t + ")");
    }
  }
}
