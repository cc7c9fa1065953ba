/** Promises 5 and 6, stage and commit: each sentence that names a boundary. */
public final class BoundaryIndexTest {
  public static void main(String[] args) {
    stagePathTooSmall();
    stagePathTooLarge();
    stageCopiesTheEntry();
    stageOfAnAbsentPath();
    stageOfADirectory();
    stageClearsEveryAncestor();
    stageClearsEveryDescendant();
    stageClearsNothingBeside();
    stageOfNothingLeavesTheRest();
    stageAnswersTrueAlways();
    stageChangesIndexAlone();
    commitCopiesEveryPath();
    commitCountsChangedPaths();
    commitOfTheSame();
    commitIsNeverRefused();
    commitChangesHeadAlone();
    Due.end();
  }

  /** "If p is not in 0..N-1: answers false and changes nothing", at the lower end */
  private static void stagePathTooSmall() {
    Due.about("stage: p below 0 answers false");
    for (int paths = 8; paths <= 24; paths++) {
      Scene s = Scene.mixed(paths);
      for (int p : Scene.pathsTooSmall()) {
        Due.is("stage(" + p + ")", s.x.stage(p), false);
        s.holds("stage(" + p + ")");
      }
      Scene first = new Scene(paths).work(0, 1).made();
      first.stages(0, 1);
    }
  }

  /** "If p is not in 0..N-1: answers false and changes nothing", at the upper end */
  private static void stagePathTooLarge() {
    Due.about("stage: p of N or more answers false");
    for (int paths = 8; paths <= 24; paths++) {
      Scene s = Scene.mixed(paths);
      for (int p : Scene.pathsTooLarge(paths)) {
        Due.is("stage(" + p + ")", s.x.stage(p), false);
        s.holds("stage(" + p + ")");
      }
      Scene last = new Scene(paths).work(paths - 1, 1).made();
      last.stages(paths - 1, 1);
    }
  }

  /** "INDEX[p] becomes w": a new file, another content, the same content */
  private static void stageCopiesTheEntry() {
    Due.about("stage: INDEX[p] becomes w");
    for (int p = 0; p < 24; p++) {
      Scene added = new Scene(24).work(p, 1000).made();
      added.stages(p, 1000);
      added.stages(p, 1000);
      Scene other = new Scene(24).index(p, 2).work(p, 1).made();
      other.stages(p, 1);
    }
  }

  /** "which is 0 when p holds no file in WORK": the file in INDEX goes */
  private static void stageOfAnAbsentPath() {
    Due.about("stage: w is 0 when p holds no file in WORK");
    for (int p = 0; p < 24; p++) {
      Scene s = new Scene(24).head(p, 1).index(p, 2).target(p, 3).made();
      s.stages(p, 0);
      s.stages(p, 0);
    }
    // Below a file of WORK a path is absent too.
    Scene below = new Scene(24).index(20, 1, 5, 2).work(0, 3).made();
    below.stages(20, 0);
    below.stages(5, 0);
  }

  /** "also when p is a directory there" */
  private static void stageOfADirectory() {
    Due.about("stage: w is 0 also when p is a directory in WORK");
    Scene s = new Scene(24).index(0, 1, 2, 2).work(23, 3, 15, 4).made();
    s.stages(0, 0);
    s.stages(4, 0);
    s.stages(2, 0);
    Scene deep = new Scene(24).index(4, 1).work(20, 3).made();
    deep.stages(4, 0);
  }

  /** "If w != 0, every proper ancestor ... that holds a file in INDEX gets entry 0" */
  private static void stageClearsEveryAncestor() {
    Due.about("stage: every proper ancestor in INDEX gets entry 0");
    for (int p = 4; p < 24; p++) {
      int parent = p / 4 - 1;
      Scene s = new Scene(24).head(parent, 1).index(parent, 1).work(p, 2).target(parent, 1).made();
      s.stages(p, 2, parent);
    }
    for (int p = 20; p < 24; p++) {
      Scene s = new Scene(24).head(0, 1).index(0, 1).work(p, 2).target(0, 1).made();
      s.stages(p, 2, 0);
    }
  }

  /** "and every proper descendant of p that holds a file in INDEX gets entry 0 in INDEX" */
  private static void stageClearsEveryDescendant() {
    Due.about("stage: every proper descendant in INDEX gets entry 0");
    for (int q = 4; q < 24; q++) {
      int parent = q / 4 - 1;
      Scene s = new Scene(24).head(q, 1).index(q, 1).work(parent, 2).target(q, 1).made();
      s.stages(parent, 2, q);
    }
    Scene all = new Scene(24).index(5, 1, 6, 2, 7, 3, 20, 4, 21, 5, 22, 6, 23, 7).work(0, 8).made();
    all.stages(0, 8, 5, 6, 7, 20, 21, 22, 23);
    Scene deep = new Scene(24).index(5, 1, 6, 2, 7, 3, 20, 4, 21, 5, 22, 6, 23, 7).work(4, 8).made();
    deep.stages(4, 8, 20, 21, 22, 23);
  }

  /** "every proper ancestor and every proper descendant of p": no other path */
  private static void stageClearsNothingBeside() {
    Due.about("stage: a file that is neither above nor below p stays in INDEX");
    Scene s = new Scene(24)
        .index(5, 1, 7, 2, 20, 3, 23, 4, 8, 5, 2, 6, 19, 7)
        .work(22, 8, 6, 9, 1, 10)
        .made();
    s.stages(22, 8);
    s.stages(6, 9);
    s.stages(1, 10, 8);
    // What is staged one after the other stands side by side.
    Scene same = new Scene(24).index(0, 1).work(20, 2, 21, 3).made();
    same.stages(20, 2, 0);
    same.stages(21, 3);
  }

  /** "If w == 0, only INDEX[p] is set; other INDEX entries are untouched." */
  private static void stageOfNothingLeavesTheRest() {
    Due.about("stage: if w == 0, only INDEX[p] is set");
    Scene below = new Scene(24).index(5, 1, 20, 2, 23, 3).made();
    below.stages(0, 0);
    below.stages(4, 0);
    Scene above = new Scene(24).index(0, 1, 1, 2).made();
    above.stages(4, 0);
    above.stages(20, 0);
    above.stages(11, 0);
    Scene directory = new Scene(24).index(5, 1, 23, 2).work(5, 3, 20, 4).made();
    directory.stages(0, 0);
    directory.stages(4, 0);
  }

  /** "The answer is true.": also where nothing is to be copied or changed */
  private static void stageAnswersTrueAlways() {
    Due.about("stage: the answer is true");
    for (int paths = 8; paths <= 24; paths++) {
      Scene s = new Scene(paths).made();
      for (int p = 0; p < paths; p++) {
        s.stages(p, 0);
      }
    }
  }

  /** "HEAD, WORK, TARGET and lastPath() stay unchanged." */
  private static void stageChangesIndexAlone() {
    Due.about("stage: HEAD, WORK, TARGET and lastPath() stay unchanged");
    for (int paths = 8; paths <= 24; paths++) {
      Scene s = Scene.mixed(paths);
      // INDEX holds 1 and 6, WORK holds 2 and 7.
      s.stages(2, 15);
      s.stages(7, 16);
      s.stages(1, 0);
      s.stages(6, 0);
      s.stages(0, 0);
    }
  }

  /** "commit() sets HEAD := INDEX, entry by entry for all N paths." */
  private static void commitCopiesEveryPath() {
    Due.about("commit: HEAD := INDEX for all N paths");
    for (int paths = 8; paths <= 24; paths++) {
      for (int p = 0; p < paths; p++) {
        Scene added = new Scene(paths).index(p, 1).made();
        added.commits(1);
        Scene gone = new Scene(paths).head(p, 1).made();
        gone.commits(1);
        Scene other = new Scene(paths).head(p, 1).index(p, 1000).made();
        other.commits(1);
      }
    }
  }

  /** "It answers the number of paths whose HEAD entry changed", from one to the most there can be */
  private static void commitCountsChangedPaths() {
    Due.about("commit: the number of paths whose HEAD entry changed");
    Scene one = new Scene(24).head(1, 1, 2, 2, 23, 3).index(1, 1, 2, 2, 23, 4).made();
    one.commits(1);
    Scene kinds = new Scene(24).head(1, 1, 2, 2, 3, 3).index(0, 9, 1, 8, 3, 3).made();
    kinds.commits(3);
    // Files at 0..3 give way to files at every leaf: all paths change but 4, which is never a file.
    Scene most = new Scene(24).head(0, 1, 1, 1, 2, 1, 3, 1).made();
    for (int p = 5; p < 24; p++) {
      most.x.write(p, 2);
      most.becomes(Scene.WORK, p, 2);
      most.stages(p, 2);
    }
    most.commits(23);
    Scene least = new Scene(8).head(0, 1, 1, 1, 2, 1, 3, 1).index(4, 1, 5, 1, 6, 1, 7, 1).made();
    least.commits(8);
  }

  /** "0 when HEAD already equalled INDEX" */
  private static void commitOfTheSame() {
    Due.about("commit: 0 when HEAD already equalled INDEX");
    for (int paths = 8; paths <= 24; paths++) {
      Scene empty = new Scene(paths).made();
      empty.commits(0);
      Scene same = new Scene(paths).head(0, 1, 1, 1000).index(0, 1, 1, 1000).work(5, 2).target(6, 3).made();
      same.commits(0);
      Scene twice = Scene.mixed(paths);
      twice.commits(3);
      twice.commits(0);
    }
  }

  /** "It is never refused.": an empty INDEX, and any state of WORK and TARGET */
  private static void commitIsNeverRefused() {
    Due.about("commit: it is never refused");
    Scene empty = new Scene(24).head(1, 1, 23, 2).made();
    empty.commits(2);
    Scene dirty = new Scene(24).head(0, 1).index(20, 2).work(4, 3).target(0, 4).made();
    dirty.commits(2);
    Scene refused = new Scene(24).index(23, 2).work(23, 3).target(23, 4).made();
    refused.refuses(SafeCheckout.REFUSED_STAGED, 23);
    refused.commits(1);
  }

  /** "INDEX, WORK, TARGET and lastPath() stay unchanged." */
  private static void commitChangesHeadAlone() {
    Due.about("commit: INDEX, WORK, TARGET and lastPath() stay unchanged");
    for (int paths = 8; paths <= 24; paths++) {
      Scene s = Scene.mixed(paths);
      s.commits(3);
      // A copy, not a tie: what is staged later is not in HEAD.
      s.stages(2, 15);
      s.stages(1, 0);
    }
  }
}
