/** Promises 3 and 4, write and delete: each sentence that names a boundary. */
public final class BoundaryWorkTest {
  public static void main(String[] args) {
    writePathTooSmall();
    writePathTooLarge();
    writeContentTooSmall();
    writeContentTooLarge();
    writeContentAtItsBounds();
    writeBelowAFile();
    writeAboveAFile();
    writeLooksAtWorkAlone();
    writeWithEveryConditionFailing();
    writeOfTheSameContent();
    writeReplacesWhatIsThere();
    writeChangesOneEntry();
    deletePathTooSmall();
    deletePathTooLarge();
    deleteTakesTheFileAtThePath();
    deleteTakesEveryFileBelow();
    deleteOfNothing();
    deleteLeavesOtherPaths();
    Due.end();
  }

  /** "0 <= p < N" of write, at the lower end */
  private static void writePathTooSmall() {
    Due.about("write: 0 <= p");
    for (int paths = 8; paths <= 24; paths++) {
      Scene s = Scene.mixed(paths);
      for (int p : Scene.pathsTooSmall()) {
        s.writes(p, 5, false);
      }
      Scene empty = new Scene(paths).made();
      empty.writes(-1, 5, false);
      empty.writes(0, 5, true);
    }
  }

  /** "0 <= p < N" of write, at the upper end */
  private static void writePathTooLarge() {
    Due.about("write: p < N");
    for (int paths = 8; paths <= 24; paths++) {
      Scene s = Scene.mixed(paths);
      for (int p : Scene.pathsTooLarge(paths)) {
        s.writes(p, 5, false);
      }
      Scene empty = new Scene(paths).made();
      empty.writes(paths, 5, false);
      empty.writes(paths - 1, 5, true);
    }
  }

  /** "1 <= c <= MAX_CONTENT (so c = 0 and negative c are refused)" */
  private static void writeContentTooSmall() {
    Due.about("write: c = 0 and negative c are refused");
    int[] contents = {0, -1, -2, -1000, Integer.MIN_VALUE, Integer.MIN_VALUE + 1};
    for (int c : contents) {
      Scene s = Scene.mixed(24);
      s.writes(0, c, false);
      s.writes(23, c, false);
      // A file is not taken away by a content of 0 either.
      s.writes(2, c, false);
      s.writes(7, c, false);
    }
  }

  /** "1 <= c <= MAX_CONTENT", at the upper end */
  private static void writeContentTooLarge() {
    Due.about("write: c <= MAX_CONTENT");
    int[] contents = {1001, 1002, 2000, 65536 + 1, Integer.MAX_VALUE - 1, Integer.MAX_VALUE};
    for (int c : contents) {
      Scene s = Scene.mixed(24);
      s.writes(5, c, false);
      s.writes(23, c, false);
      s.writes(2, c, false);
    }
  }

  /** "1 <= c <= MAX_CONTENT": both bounds are contents themselves */
  private static void writeContentAtItsBounds() {
    Due.about("write: c = 1 and c = MAX_CONTENT are accepted");
    Scene s = Scene.mixed(24);
    s.writes(23, 1, true);
    s.writes(23, 1000, true);
    s.writes(2, 1000, true);
    s.writes(2, 1, true);
  }

  /** "no proper ancestor of p holds a file in WORK" */
  private static void writeBelowAFile() {
    Due.about("write: no proper ancestor of p holds a file in WORK");
    int[][] families = {{0, 4, 7}, {1, 8, 11}, {2, 12, 15}, {3, 16, 19}, {4, 20, 23}, {0, 20, 23}};
    for (int[] family : families) {
      Scene s = new Scene(24).work(family[0], 1).made();
      for (int p = family[1]; p <= family[2]; p++) {
        s.writes(p, 5, false);
        s.writes(p, 1, false);
      }
      s.deletes(family[0], 1, family[0]);
      s.writes(family[1], 5, true);
      s.writes(family[2], 5, true);
    }
  }

  /** "no proper descendant of p holds a file in WORK" */
  private static void writeAboveAFile() {
    Due.about("write: no proper descendant of p holds a file in WORK");
    int[][] families = {{0, 4, 7}, {1, 8, 11}, {2, 12, 15}, {3, 16, 19}, {4, 20, 23}, {0, 20, 23}};
    for (int[] family : families) {
      for (int p = family[1]; p <= family[2]; p++) {
        Scene s = new Scene(24).work(p, 1).made();
        s.writes(family[0], 5, false);
        s.writes(family[0], 1, false);
        s.deletes(p, 1, p);
        s.writes(family[0], 5, true);
      }
    }
    for (int paths = 8; paths <= 24; paths++) {
      int last = paths - 1;
      Scene s = new Scene(paths).work(last, 1).made();
      s.writes(last / 4 - 1, 5, false);
    }
  }

  /** "holds a file in WORK": a file of another tree stands in nobody's way */
  private static void writeLooksAtWorkAlone() {
    Due.about("write: files of HEAD, INDEX and TARGET refuse nothing");
    Scene below = new Scene(24).head(0, 1).index(0, 1).target(0, 1).made();
    below.writes(4, 5, true);
    below.writes(5, 5, true);
    Scene above = new Scene(24).head(20, 1).index(20, 1).target(20, 1).made();
    above.writes(0, 5, true);
    Scene middle = new Scene(24).head(20, 1).index(20, 1).target(20, 1).made();
    middle.writes(4, 5, true);
  }

  /** "These conditions are examined in this order, and the first one that fails refuses the call" */
  private static void writeWithEveryConditionFailing() {
    Due.about("write: the first condition that fails refuses the call with false");
    Scene s = new Scene(24).work(0, 1, 8, 2).made();
    int[][] calls = {
      {-1, 0}, {24, 0}, {24, 1001}, {Integer.MIN_VALUE, Integer.MIN_VALUE},
      {Integer.MAX_VALUE, Integer.MAX_VALUE}, {4, 0}, {4, 1001}, {20, -1}, {1, 0}, {1, 1001}
    };
    for (int[] call : calls) {
      s.writes(call[0], call[1], false);
    }
  }

  /** "the answer is true; this is also so when WORK[p] already was c" */
  private static void writeOfTheSameContent() {
    Due.about("write: true also when WORK[p] already was c");
    Scene s = new Scene(24).work(1, 1, 23, 1000).made();
    s.writes(1, 1, true);
    s.writes(23, 1000, true);
    s.writes(23, 1000, true);
  }

  /** "creating it or replacing what is there" */
  private static void writeReplacesWhatIsThere() {
    Due.about("write: creating a file or replacing what is there");
    Scene s = new Scene(24).work(1, 7, 23, 8).made();
    s.writes(1, 8, true);
    s.writes(23, 7, true);
    s.writes(2, 1, true);
    s.writes(22, 1, true);
    s.writes(2, 1000, true);
  }

  /** "Only WORK[p] changes; every other entry ... and lastPath() stay unchanged." */
  private static void writeChangesOneEntry() {
    Due.about("write: only WORK[p] changes");
    for (int paths = 8; paths <= 24; paths++) {
      for (int p = 0; p < paths; p++) {
        Scene s = Scene.mixed(paths);
        // WORK of this scene holds files at 2 and 7.
        boolean fits = p != 0 && (p < 12 || p > 15);
        s.writes(p, 5, fits);
      }
    }
  }

  /** "If p is not in 0..N-1: answers -1 and changes nothing", at the lower end */
  private static void deletePathTooSmall() {
    Due.about("delete: p below 0 answers -1");
    for (int paths = 8; paths <= 24; paths++) {
      Scene s = Scene.mixed(paths);
      for (int p : Scene.pathsTooSmall()) {
        s.deletes(p, -1);
      }
    }
    // Path 0 is the parent of the paths 4..7 and -1 of none, also of the paths 0..3.
    Scene top = new Scene(24).work(0, 1, 1, 1, 2, 1, 3, 1).made();
    top.deletes(-1, -1);
    top.deletes(0, 1, 0);
  }

  /** "If p is not in 0..N-1: answers -1 and changes nothing", at the upper end */
  private static void deletePathTooLarge() {
    Due.about("delete: p of N or more answers -1");
    for (int paths = 8; paths <= 24; paths++) {
      Scene s = Scene.mixed(paths);
      for (int p : Scene.pathsTooLarge(paths)) {
        s.deletes(p, -1);
      }
      Scene last = new Scene(paths).work(paths - 1, 1).made();
      last.deletes(paths, -1);
      last.deletes(paths - 1, 1, paths - 1);
    }
  }

  /** "removes from WORK the file at p" */
  private static void deleteTakesTheFileAtThePath() {
    Due.about("delete: the file at p");
    for (int p = 0; p < 24; p++) {
      Scene s = new Scene(24).head(p, 1).index(p, 1).work(p, 1).target(p, 1).made();
      s.deletes(p, 1, p);
      s.deletes(p, 0);
    }
  }

  /** "and every file at a proper descendant of p"; "answers the number of files removed" */
  private static void deleteTakesEveryFileBelow() {
    Due.about("delete: every file at a proper descendant of p, and their number");
    for (int q = 4; q < 24; q++) {
      int parent = q / 4 - 1;
      Scene s = new Scene(24).work(q, 1).made();
      s.deletes(parent, 1, q);
    }
    for (int q = 20; q < 24; q++) {
      Scene s = new Scene(24).work(q, 1).made();
      s.deletes(0, 1, q);
    }
    // The most that one call can remove: all leaves under 0.
    Scene most = new Scene(24).work(5, 1, 6, 2, 7, 3, 20, 4, 21, 5, 22, 6, 23, 7).made();
    most.deletes(0, 7, 5, 6, 7, 20, 21, 22, 23);
    Scene deep = new Scene(24).work(5, 1, 6, 2, 7, 3, 20, 4, 21, 5, 22, 6, 23, 7).made();
    deep.deletes(4, 4, 20, 21, 22, 23);
    deep.deletes(0, 3, 5, 6, 7);
  }

  /** "When there were none, the answer is 0 and nothing changes." */
  private static void deleteOfNothing() {
    Due.about("delete: when there were none, the answer is 0 and nothing changes");
    for (int paths = 8; paths <= 24; paths++) {
      Scene empty = new Scene(paths).made();
      // Only WORK counts: the other trees hold files at the path and below it.
      Scene other = new Scene(paths).head(0, 1).index(4, 2).target(7, 3).work(1, 4).made();
      for (int p = 0; p < paths; p++) {
        empty.deletes(p, 0);
        if (p != 1) {
          other.deletes(p, 0);
        }
      }
    }
  }

  /** "Entries of WORK at other paths ... stay unchanged": above p, beside p, and below its siblings */
  private static void deleteLeavesOtherPaths() {
    Due.about("delete: entries of WORK at other paths stay unchanged");
    Scene above = new Scene(24).work(0, 1, 1, 2).made();
    above.deletes(4, 0);
    above.deletes(20, 0);
    above.deletes(8, 0);
    Scene beside = new Scene(24).work(5, 1, 20, 2, 21, 3, 23, 4, 1, 5, 12, 6, 19, 7).made();
    beside.deletes(22, 0);
    beside.deletes(6, 0);
    beside.deletes(21, 1, 21);
    beside.deletes(5, 1, 5);
    beside.deletes(3, 1, 19);
    beside.deletes(13, 0);
    beside.deletes(4, 2, 20, 23);
    Scene full = Scene.mixed(24);
    full.deletes(2, 1, 2);
    full.deletes(0, 1, 7);
  }
}
