/** Promise 9, a forced switch: each sentence that names a boundary. */
public final class BoundaryForceTest {
  // The least and the greatest content, and another one.
  private static final int A = 1;
  private static final int B = 1000;
  private static final int C = 2;

  public static void main(String[] args) {
    emptyTrees();
    neverRefused();
    indexBecomesTarget();
    trackedInHeadAlone();
    trackedInIndexAlone();
    trackedInTargetAlone();
    untrackedFileStays();
    nothingStaysNothing();
    untrackedBelowATargetFile();
    untrackedAboveATargetFile();
    onlyFilesOfTargetDrive();
    besideATargetFile();
    everyPathFromFirstToLast();
    recordedPathIsForgotten();
    treesAreWellFormed();
    Due.end();
  }

  private static Scene one(int paths, int p, int h, int i, int w, int t) {
    return new Scene(paths).head(p, h).index(p, i).work(p, w).target(p, t).made();
  }

  private static void forced(int p, int h, int i, int w, int t, int work) {
    one(24, p, h, i, w, t).switches(true, Scene.rows(p, t), Scene.rows(p, work));
  }

  /** All trees empty: a forced switch answers OK and changes nothing. */
  private static void emptyTrees() {
    Due.about("switchTo(true) of empty trees");
    for (int paths = 8; paths <= 24; paths++) {
      new Scene(paths).made().switches(true, Scene.rows(), Scene.rows());
    }
  }

  /** "force == true (never refused)": where a switch that is not forced gives each of its refusals */
  private static void neverRefused() {
    Due.about("force == true: never refused");
    Scene untracked = one(24, 23, 0, 0, A, B);
    untracked.refuses(SafeCheckout.REFUSED_UNTRACKED, 23);
    untracked.switches(true, Scene.rows(23, B), Scene.rows(23, B));
    Scene local = one(24, 0, A, A, C, B);
    local.refuses(SafeCheckout.REFUSED_LOCAL, 0);
    local.switches(true, Scene.rows(0, B), Scene.rows(0, B));
    Scene gone = one(24, 0, A, A, 0, B);
    gone.refuses(SafeCheckout.REFUSED_LOCAL, 0);
    gone.switches(true, Scene.rows(0, B), Scene.rows(0, B));
    Scene staged = one(24, 7, A, C, C, B);
    staged.refuses(SafeCheckout.REFUSED_STAGED, 7);
    staged.switches(true, Scene.rows(7, B), Scene.rows(7, B));
    Scene hidden = new Scene(24).work(23, A).target(0, B).made();
    hidden.refuses(SafeCheckout.REFUSED_HIDDEN, 0);
    hidden.switches(true, Scene.rows(0, B), Scene.rows(0, B));
    Scene hiddenInIndex = new Scene(24).index(23, A).target(0, B).made();
    hiddenInIndex.refuses(SafeCheckout.REFUSED_HIDDEN, 0);
    hiddenInIndex.switches(true, Scene.rows(0, B), Scene.rows(0, B));
  }

  /** "I'[p] = T[p]": also where TARGET has no file, and where TARGET is as HEAD */
  private static void indexBecomesTarget() {
    Due.about("force: I'[p] = T[p]");
    int[] contents = {0, A, B, C};
    for (int h : contents) {
      for (int i : contents) {
        for (int t : contents) {
          forced(0, h, i, 0, t, t);
          forced(23, h, i, 0, t, t);
        }
      }
    }
  }

  /** "if H[p] != 0 ..., then W'[p] = T[p]" */
  private static void trackedInHeadAlone() {
    Due.about("force: H != 0 alone, then W'[p] = T[p]");
    for (int p = 0; p < 24; p++) {
      forced(p, A, 0, C, 0, 0);
      forced(p, B, 0, B, 0, 0);
      forced(p, A, 0, 0, 0, 0);
    }
  }

  /** "or I[p] != 0 ..., then W'[p] = T[p]" */
  private static void trackedInIndexAlone() {
    Due.about("force: I != 0 alone, then W'[p] = T[p]");
    for (int p = 0; p < 24; p++) {
      forced(p, 0, A, C, 0, 0);
      forced(p, 0, B, B, 0, 0);
      forced(p, 0, A, 0, 0, 0);
    }
  }

  /** "or T[p] != 0, then W'[p] = T[p]" */
  private static void trackedInTargetAlone() {
    Due.about("force: T != 0 alone, then W'[p] = T[p]");
    for (int p = 0; p < 24; p++) {
      forced(p, 0, 0, C, A, A);
      forced(p, 0, 0, B, B, B);
      forced(p, 0, 0, 0, A, A);
    }
  }

  /** "otherwise (an untracked file ... at p), W'[p] = W[p]" */
  private static void untrackedFileStays() {
    Due.about("force: an untracked file stays");
    for (int paths = 8; paths <= 24; paths++) {
      for (int p = 0; p < paths; p++) {
        one(paths, p, 0, 0, A, 0).switches(true, Scene.rows(), Scene.rows(p, A));
        one(paths, p, 0, 0, B, 0).switches(true, Scene.rows(), Scene.rows(p, B));
      }
    }
  }

  /** "otherwise (... or nothing at p), W'[p] = W[p]" */
  private static void nothingStaysNothing() {
    Due.about("force: nothing at p stays nothing");
    Scene s = new Scene(24).work(5, A).target(1, B).made();
    s.switches(true, Scene.rows(1, B), Scene.rows(1, B, 5, A));
    s.switches(true, Scene.rows(1, B), Scene.rows(1, B, 5, A));
  }

  /** "except that W'[p] = 0 when some proper ancestor ... q of p has T[q] != 0" */
  private static void untrackedBelowATargetFile() {
    Due.about("force: an untracked file goes below a file of TARGET");
    for (int p = 4; p < 24; p++) {
      int parent = p / 4 - 1;
      Scene s = new Scene(24).work(p, A).target(parent, B).made();
      s.switches(true, Scene.rows(parent, B), Scene.rows(parent, B));
    }
    for (int p = 20; p < 24; p++) {
      new Scene(24).work(p, A).target(0, B).made().switches(true, Scene.rows(0, B), Scene.rows(0, B));
    }
    Scene all = new Scene(24).work(5, A, 6, A, 7, A, 20, A, 21, A, 22, A, 23, A).target(0, B).made();
    all.switches(true, Scene.rows(0, B), Scene.rows(0, B));
  }

  /** "or proper descendant q of p has T[q] != 0" */
  private static void untrackedAboveATargetFile() {
    Due.about("force: an untracked file goes above a file of TARGET");
    for (int q = 4; q < 24; q++) {
      int parent = q / 4 - 1;
      new Scene(24).work(parent, A).target(q, B).made().switches(true, Scene.rows(q, B), Scene.rows(q, B));
    }
    for (int q = 20; q < 24; q++) {
      new Scene(24).work(0, A).target(q, B).made().switches(true, Scene.rows(q, B), Scene.rows(q, B));
    }
    for (int paths = 8; paths <= 24; paths++) {
      int last = paths - 1;
      Scene s = new Scene(paths).work(last / 4 - 1, A).target(last, B).made();
      s.switches(true, Scene.rows(last, B), Scene.rows(last, B));
    }
  }

  /** "q of p has T[q] != 0": a file of HEAD or INDEX above or below p drives nothing away */
  private static void onlyFilesOfTargetDrive() {
    Due.about("force: a file of HEAD or INDEX above or below p drives nothing away");
    for (int q = 4; q < 24; q++) {
      int parent = q / 4 - 1;
      new Scene(24).head(parent, B).work(q, A).made().switches(true, Scene.rows(), Scene.rows(q, A));
      new Scene(24).index(parent, B).work(q, A).made().switches(true, Scene.rows(), Scene.rows(q, A));
      new Scene(24).head(q, B).work(parent, A).made().switches(true, Scene.rows(), Scene.rows(parent, A));
      new Scene(24).index(q, B).work(parent, A).made().switches(true, Scene.rows(), Scene.rows(parent, A));
    }
    new Scene(24).head(0, B).index(0, B).work(23, A).made().switches(true, Scene.rows(), Scene.rows(23, A));
    new Scene(24).head(23, B).index(23, B).work(0, A).made().switches(true, Scene.rows(), Scene.rows(0, A));
  }

  /** A file of TARGET that is neither above nor below p drives nothing away. */
  private static void besideATargetFile() {
    Due.about("force: a file of TARGET beside p drives nothing away");
    Scene s = new Scene(24).work(5, A, 21, A, 23, A, 1, A, 19, A).target(6, B, 22, B, 2, B).made();
    s.switches(true,
        Scene.rows(6, B, 22, B, 2, B),
        Scene.rows(6, B, 22, B, 2, B, 5, A, 21, A, 23, A, 1, A, 19, A));
  }

  /** "For every path p": the first and the last one at once, with every number of paths */
  private static void everyPathFromFirstToLast() {
    Due.about("force: for every path p");
    for (int paths = 8; paths <= 24; paths++) {
      int last = paths - 1;
      int[] before = Scene.rows(0, A, 1, A, 2, A, 3, A);
      Scene s = new Scene(paths).head(before).index(before).work(before).target(last, B, 5, C).made();
      s.switches(true, Scene.rows(last, B, 5, C), Scene.rows(last, B, 5, C));
      s.setsTarget(last, 0, true);
      s.setsTarget(5, 0, true);
      s.switches(true, Scene.rows(), Scene.rows());
    }
  }

  /** "lastPath() becomes -1, and the answer is OK." */
  private static void recordedPathIsForgotten() {
    Due.about("force: lastPath() becomes -1");
    Scene first = one(24, 0, 0, 0, A, B);
    first.previews(SafeCheckout.REFUSED_UNTRACKED, 0);
    first.switches(true, Scene.rows(0, B), Scene.rows(0, B));
    Scene last = one(24, 23, A, A, C, B);
    last.refuses(SafeCheckout.REFUSED_LOCAL, 23);
    last.switches(true, Scene.rows(23, B), Scene.rows(23, B));
  }

  /** "After every call, whatever the answer, all four trees are well formed." */
  private static void treesAreWellFormed() {
    Due.about("force: all four trees are well formed");
    // Untracked files at every leaf, and TARGET with files over two of the four top paths.
    Scene s = new Scene(24)
        .work(5, A, 6, A, 7, A, 20, A, 21, A, 22, A, 23, A, 8, A, 11, A, 12, A, 15, A, 16, A, 19, A)
        .target(4, B, 1, B, 14, B)
        .made();
    s.switches(true,
        Scene.rows(4, B, 1, B, 14, B),
        Scene.rows(4, B, 1, B, 14, B, 5, A, 6, A, 7, A, 12, A, 15, A, 16, A, 19, A));
  }
}
