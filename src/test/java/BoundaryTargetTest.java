/** Promises 7 and 8, setTarget and targetFromHead: each sentence that names a boundary. */
public final class BoundaryTargetTest {
  private static final int[][] FAMILIES = {
    {0, 4, 7}, {1, 8, 11}, {2, 12, 15}, {3, 16, 19}, {4, 20, 23}, {0, 20, 23}
  };

  public static void main(String[] args) {
    pathTooSmall();
    pathTooLarge();
    contentTooSmall();
    contentTooLarge();
    contentAtItsBounds();
    belowAFile();
    aboveAFile();
    everyConditionFailing();
    nothingIsAlwaysAccepted();
    sameContentAgain();
    oneEntryChanges();
    looksAtTargetAlone();
    copyOfEveryPath();
    copyOfNothing();
    copyIsNeverRefused();
    copyChangesTargetAlone();
    Due.end();
  }

  /** "0 <= p < N" of setTarget, at the lower end */
  private static void pathTooSmall() {
    Due.about("setTarget: 0 <= p");
    for (int paths = 8; paths <= 24; paths++) {
      Scene s = Scene.mixed(paths);
      for (int p : Scene.pathsTooSmall()) {
        s.setsTarget(p, 5, false);
        s.setsTarget(p, 0, false);
      }
      Scene empty = new Scene(paths).made();
      empty.setsTarget(-1, 5, false);
      empty.setsTarget(0, 5, true);
    }
  }

  /** "0 <= p < N" of setTarget, at the upper end */
  private static void pathTooLarge() {
    Due.about("setTarget: p < N");
    for (int paths = 8; paths <= 24; paths++) {
      Scene s = Scene.mixed(paths);
      for (int p : Scene.pathsTooLarge(paths)) {
        s.setsTarget(p, 5, false);
        s.setsTarget(p, 0, false);
      }
      Scene empty = new Scene(paths).made();
      empty.setsTarget(paths, 5, false);
      empty.setsTarget(paths - 1, 5, true);
    }
  }

  /** "0 <= c <= MAX_CONTENT", at the lower end */
  private static void contentTooSmall() {
    Due.about("setTarget: 0 <= c");
    int[] contents = {-1, -2, -1000, Integer.MIN_VALUE, Integer.MIN_VALUE + 1};
    for (int c : contents) {
      Scene s = Scene.mixed(24);
      s.setsTarget(1, c, false);
      s.setsTarget(3, c, false);
      s.setsTarget(5, c, false);
    }
  }

  /** "0 <= c <= MAX_CONTENT", at the upper end */
  private static void contentTooLarge() {
    Due.about("setTarget: c <= MAX_CONTENT");
    int[] contents = {1001, 1002, 2000, 65536 + 1, Integer.MAX_VALUE - 1, Integer.MAX_VALUE};
    for (int c : contents) {
      Scene s = Scene.mixed(24);
      s.setsTarget(1, c, false);
      s.setsTarget(3, c, false);
      s.setsTarget(5, c, false);
    }
  }

  /** "0 <= c <= MAX_CONTENT": both bounds, and the least content of a file */
  private static void contentAtItsBounds() {
    Due.about("setTarget: c = 0, c = 1 and c = MAX_CONTENT are accepted");
    Scene s = Scene.mixed(24);
    s.setsTarget(3, 1000, true);
    s.setsTarget(3, 1, true);
    s.setsTarget(3, 0, true);
    s.setsTarget(19, 1000, true);
    s.setsTarget(18, 1, true);
  }

  /** "if c != 0: no proper ancestor of p holds a file in TARGET" */
  private static void belowAFile() {
    Due.about("setTarget: no proper ancestor of p holds a file in TARGET");
    for (int[] family : FAMILIES) {
      Scene s = new Scene(24).target(family[0], 1).made();
      for (int p = family[1]; p <= family[2]; p++) {
        s.setsTarget(p, 5, false);
        s.setsTarget(p, 1, false);
      }
      s.setsTarget(family[0], 0, true);
      s.setsTarget(family[1], 5, true);
      s.setsTarget(family[2], 5, true);
    }
  }

  /** "if c != 0: no proper descendant of p holds a file in TARGET" */
  private static void aboveAFile() {
    Due.about("setTarget: no proper descendant of p holds a file in TARGET");
    for (int[] family : FAMILIES) {
      for (int p = family[1]; p <= family[2]; p++) {
        Scene s = new Scene(24).target(p, 1).made();
        s.setsTarget(family[0], 5, false);
        s.setsTarget(family[0], 1, false);
        s.setsTarget(p, 0, true);
        s.setsTarget(family[0], 5, true);
      }
    }
    for (int paths = 8; paths <= 24; paths++) {
      int last = paths - 1;
      Scene s = new Scene(paths).target(last, 1).made();
      s.setsTarget(last / 4 - 1, 5, false);
    }
  }

  /** "These conditions are examined in this order, and the first one that fails refuses the call" */
  private static void everyConditionFailing() {
    Due.about("setTarget: the first condition that fails refuses the call with false");
    Scene s = new Scene(24).target(0, 1, 8, 2).made();
    int[][] calls = {
      {-1, -1}, {24, -1}, {24, 1001}, {Integer.MIN_VALUE, Integer.MIN_VALUE},
      {Integer.MAX_VALUE, Integer.MAX_VALUE}, {4, -1}, {4, 1001}, {20, -1}, {1, -1}, {1, 1001}
    };
    for (int[] call : calls) {
      s.setsTarget(call[0], call[1], false);
    }
  }

  /** "With c = 0 and a valid p the call is always accepted." */
  private static void nothingIsAlwaysAccepted() {
    Due.about("setTarget: with c = 0 and a valid p the call is always accepted");
    for (int paths = 8; paths <= 24; paths++) {
      Scene empty = new Scene(paths).made();
      for (int p = 0; p < paths; p++) {
        empty.setsTarget(p, 0, true);
      }
    }
    // Below a file and above files: what stands there stays.
    Scene below = new Scene(24).target(0, 1, 1, 2).made();
    below.setsTarget(4, 0, true);
    below.setsTarget(7, 0, true);
    below.setsTarget(23, 0, true);
    below.setsTarget(8, 0, true);
    Scene above = new Scene(24).target(20, 1, 23, 2, 5, 3).made();
    above.setsTarget(0, 0, true);
    above.setsTarget(4, 0, true);
    above.setsTarget(20, 0, true);
    above.setsTarget(20, 0, true);
  }

  /** "If all hold, TARGET[p] becomes c and the answer is true." */
  private static void sameContentAgain() {
    Due.about("setTarget: true also when TARGET[p] already was c");
    Scene s = new Scene(24).target(1, 1, 23, 1000).made();
    s.setsTarget(1, 1, true);
    s.setsTarget(23, 1000, true);
    s.setsTarget(23, 999, true);
  }

  /** "Only TARGET[p] changes; HEAD, INDEX, WORK and lastPath() stay unchanged." */
  private static void oneEntryChanges() {
    Due.about("setTarget: only TARGET[p] changes");
    for (int paths = 8; paths <= 24; paths++) {
      for (int p = 0; p < paths; p++) {
        Scene s = Scene.mixed(paths);
        // TARGET of this scene holds files at 3 and 4.
        s.setsTarget(p, 5, p != 0 && p < 16);
        s.setsTarget(p, 0, true);
      }
    }
  }

  /** "holds a file in TARGET": a file of another tree stands in nobody's way */
  private static void looksAtTargetAlone() {
    Due.about("setTarget: files of HEAD, INDEX and WORK refuse nothing");
    Scene below = new Scene(24).head(0, 1).index(0, 1).work(0, 1).made();
    below.setsTarget(4, 5, true);
    below.setsTarget(5, 5, true);
    Scene above = new Scene(24).head(20, 1).index(20, 1).work(20, 1).made();
    above.setsTarget(0, 5, true);
    Scene middle = new Scene(24).head(20, 1).index(20, 1).work(20, 1).made();
    middle.setsTarget(4, 5, true);
  }

  /** "targetFromHead() sets TARGET := HEAD, entry by entry for all N paths." */
  private static void copyOfEveryPath() {
    Due.about("targetFromHead: TARGET := HEAD for all N paths");
    for (int paths = 8; paths <= 24; paths++) {
      for (int p = 0; p < paths; p++) {
        Scene added = new Scene(paths).head(p, 1).made();
        added.takesTargetFromHead();
        Scene other = new Scene(paths).head(p, 1).target(p, 1000).made();
        other.takesTargetFromHead();
      }
    }
  }

  /** "TARGET := HEAD" of an empty HEAD: the files of TARGET go */
  private static void copyOfNothing() {
    Due.about("targetFromHead: an empty HEAD empties TARGET");
    for (int paths = 8; paths <= 24; paths++) {
      for (int p = 0; p < paths; p++) {
        Scene gone = new Scene(paths).target(p, 1).made();
        gone.takesTargetFromHead();
      }
      Scene empty = new Scene(paths).made();
      empty.takesTargetFromHead();
    }
  }

  /** "It is never refused.": a file of TARGET above or below a file of HEAD gives way */
  private static void copyIsNeverRefused() {
    Due.about("targetFromHead: it is never refused");
    Scene above = new Scene(24).head(20, 1, 8, 2).target(0, 3, 1, 4).made();
    above.takesTargetFromHead();
    Scene below = new Scene(24).head(0, 3, 1, 4).target(20, 1, 8, 2).made();
    below.takesTargetFromHead();
    Scene refused = new Scene(24).head(23, 1).index(23, 2).work(23, 3).target(23, 4).made();
    refused.refuses(SafeCheckout.REFUSED_STAGED, 23);
    refused.takesTargetFromHead();
  }

  /** "HEAD, INDEX, WORK and lastPath() stay unchanged." */
  private static void copyChangesTargetAlone() {
    Due.about("targetFromHead: HEAD, INDEX, WORK and lastPath() stay unchanged");
    for (int paths = 8; paths <= 24; paths++) {
      Scene s = Scene.mixed(paths);
      s.takesTargetFromHead();
      s.takesTargetFromHead();
      // A copy, not a tie: a later commit is not in TARGET, a later setTarget not in HEAD.
      s.commits(3);
      s.setsTarget(2, 7, true);
    }
  }
}
