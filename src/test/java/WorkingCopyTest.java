/** Promises 3 to 8: write, delete, stage, commit, setTarget and targetFromHead. */
public final class WorkingCopyTest {
  private static final int HEAD = SafeCheckout.HEAD;
  private static final int INDEX = SafeCheckout.INDEX;
  private static final int WORK = SafeCheckout.WORK;
  private static final int TARGET = SafeCheckout.TARGET;
  private static final int[] BAD_PATHS = {Integer.MIN_VALUE, -24, -1, 24, 25, 96, Integer.MAX_VALUE};

  public static void main(String[] args) {
    writeChangesOnePath();
    writeRefusals();
    deleteTakesTheFilesBelow();
    deleteRefusals();
    stageCopiesAndClears();
    stageOfNothing();
    stageRefusals();
    commitCopiesAndCounts();
    setTargetChangesOnePath();
    setTargetRefusals();
    targetFromHeadCopies();
    smallForestHasNoPathAbove();
    Due.end();
  }

  /** A state in which all four trees differ and lastPath() is not -1. */
  private static SafeCheckout busy() {
    SafeCheckout x = new SafeCheckout(24);
    x.write(1, 11);
    x.write(20, 12);
    x.stage(1);
    x.stage(20);
    x.commit();
    x.write(2, 13);
    x.stage(2);
    x.write(1, 14);
    x.write(16, 15);
    x.setTarget(1, 16);
    x.setTarget(3, 17);
    Due.is("preview() of the busy state", x.preview(), SafeCheckout.REFUSED_LOCAL);
    Due.is("lastPath() of the busy state", x.lastPath(), 1);
    return x;
  }

  private static void unchanged(String call, SafeCheckout x, int[][] want) {
    Due.sameTrees(call, x, want);
    Due.is("after " + call + ": lastPath()", x.lastPath(), 1);
  }

  private static void writeChangesOnePath() {
    SafeCheckout x = busy();
    int[][] want = Due.trees(x);
    int[][] rows = {{1, 1}, {1, 1}, {1, 1000}, {21, 7}, {5, 500}, {20, 3}, {19, 2}, {16, 1}};
    for (int[] row : rows) {
      String call = "write(" + row[0] + ", " + row[1] + ")";
      Due.is(call, x.write(row[0], row[1]), true);
      want[WORK][row[0]] = row[1];
      unchanged(call, x, want);
    }
    x.delete(1);
    want[WORK][1] = 0;
    for (int c = 1; c <= 1000; c++) {
      Due.is("write(8, " + c + ")", x.write(8, c), true);
      Due.is("write(8, " + c + ") again", x.write(8, c), true);
      want[WORK][8] = c;
      Due.is("entry(WORK, 8)", x.entry(WORK, 8), c);
    }
    unchanged("write", x, want);
  }

  private static void writeRefusals() {
    SafeCheckout x = busy();
    int[][] want = Due.trees(x);
    for (int p : BAD_PATHS) {
      Due.is("write(" + p + ", 5)", x.write(p, 5), false);
      Due.is("write(" + p + ", 0)", x.write(p, 0), false);
    }
    int[] badContents = {Integer.MIN_VALUE, -1000, -1, 0, 1001, 2000, 65537, Integer.MAX_VALUE};
    for (int c : badContents) {
      Due.is("write(6, " + c + ")", x.write(6, c), false);
      Due.is("write(1, " + c + ")", x.write(1, c), false);
    }
    // 20 and 16 hold files: nothing fits above them; 1 and 2 hold files: nothing fits below them.
    int[] taken = {0, 3, 4, 8, 9, 10, 11, 12, 13, 14, 15};
    for (int p : taken) {
      Due.is("write(" + p + ", 5) above or below a file", x.write(p, 5), false);
    }
    unchanged("refused write", x, want);
    // Files of other trees stand in nobody's way.
    SafeCheckout y = new SafeCheckout(24);
    y.setTarget(3, 5);
    y.write(4, 1);
    y.stage(4);
    y.commit();
    y.delete(4);
    Due.is("write(20, 2) under a file of HEAD and INDEX", y.write(20, 2), true);
    Due.is("write(16, 2) under a file of TARGET", y.write(16, 2), true);
    Due.is("delete(20)", y.delete(20), 1);
    Due.is("write(0, 2) above a file of HEAD and INDEX", y.write(0, 2), true);
    Due.is("write(20, 2) under a file two steps up", y.write(20, 2), false);
  }

  private static void deleteTakesTheFilesBelow() {
    SafeCheckout x = busy();
    x.write(21, 1);
    x.write(23, 1);
    x.write(5, 1);
    x.write(7, 1);
    int[][] want = Due.trees(x);
    deleted(x, 4, 3, want, 20, 21, 23);
    deleted(x, 4, 0, want);
    x.write(22, 9);
    deleted(x, 0, 3, want, 22, 5, 7);
    deleted(x, 0, 0, want);
    deleted(x, 1, 1, want, 1);
    deleted(x, 12, 0, want);
    deleted(x, 3, 1, want, 16);
    deleted(x, 2, 1, want, 2);
    Due.is("countFiles(WORK) at the end", x.countFiles(WORK), 0);
    for (int p = 5; p < 24; p++) {
      Due.is("write(" + p + ", 2)", x.write(p, 2), true);
    }
    Due.is("delete(0) of a full tree", x.delete(0), 7);
    Due.is("delete(1) of a full tree", x.delete(1), 4);
    Due.is("delete(15) of a full tree", x.delete(15), 1);
    Due.is("delete(2) of a full tree", x.delete(2), 3);
    Due.is("delete(3) of a full tree", x.delete(3), 4);
  }

  private static void deleted(SafeCheckout x, int p, int count, int[][] want, int... gone) {
    Due.is("delete(" + p + ")", x.delete(p), count);
    for (int q : gone) {
      want[WORK][q] = 0;
    }
    unchanged("delete(" + p + ")", x, want);
  }

  private static void deleteRefusals() {
    SafeCheckout x = busy();
    int[][] want = Due.trees(x);
    for (int p : BAD_PATHS) {
      Due.is("delete(" + p + ")", x.delete(p), -1);
    }
    unchanged("refused delete", x, want);
  }

  private static void stageCopiesAndClears() {
    SafeCheckout x = busy();
    int[][] want = Due.trees(x);
    staged(x, 1, want, 14);
    staged(x, 1, want, 14);
    staged(x, 16, want, 15);
    // A file under 4 in INDEX gives way to a file at 4, that one to a file at 0, and back again.
    x.delete(0);
    x.write(4, 30);
    want = Due.trees(x);
    staged(x, 4, want, 30, 20);
    x.delete(4);
    x.write(0, 31);
    want = Due.trees(x);
    staged(x, 0, want, 31, 4);
    x.delete(0);
    x.write(23, 32);
    x.write(5, 33);
    want = Due.trees(x);
    staged(x, 23, want, 32, 0);
    staged(x, 5, want, 33);
    x.delete(0);
    x.write(0, 34);
    want = Due.trees(x);
    staged(x, 0, want, 34, 23, 5);
  }

  private static void staged(SafeCheckout x, int p, int[][] want, int content, int... cleared) {
    Due.is("stage(" + p + ")", x.stage(p), true);
    want[INDEX][p] = content;
    for (int q : cleared) {
      want[INDEX][q] = 0;
    }
    unchanged("stage(" + p + ")", x, want);
  }

  private static void stageOfNothing() {
    SafeCheckout x = busy();
    int[][] want = Due.trees(x);
    // A directory and an absent path have nothing to copy, and clear nothing beside themselves.
    staged(x, 0, want, 0);
    staged(x, 4, want, 0);
    staged(x, 21, want, 0);
    staged(x, 8, want, 0);
    x.delete(1);
    want = Due.trees(x);
    staged(x, 8, want, 0);
    staged(x, 1, want, 0);
    // INDEX has a file where WORK has a directory: staging the directory drops that file alone.
    x.delete(2);
    x.write(12, 40);
    want = Due.trees(x);
    staged(x, 2, want, 0);
    staged(x, 12, want, 40);
  }

  private static void stageRefusals() {
    SafeCheckout x = busy();
    int[][] want = Due.trees(x);
    for (int p : BAD_PATHS) {
      Due.is("stage(" + p + ")", x.stage(p), false);
    }
    unchanged("refused stage", x, want);
  }

  private static void commitCopiesAndCounts() {
    SafeCheckout x = busy();
    int[][] want = Due.trees(x);
    want[HEAD] = want[INDEX].clone();
    Due.is("commit()", x.commit(), 1);
    unchanged("commit()", x, want);
    Due.is("commit() again", x.commit(), 0);
    unchanged("commit() again", x, want);
    // One path modified, one gone, one new, and path 0 and the last path among them.
    x.stage(1);
    x.delete(0);
    x.stage(20);
    x.write(0, 50);
    x.stage(0);
    x.write(19, 51);
    x.stage(19);
    want = Due.trees(x);
    want[HEAD] = want[INDEX].clone();
    Due.is("commit() of four changes", x.commit(), 4);
    unchanged("commit() of four changes", x, want);
    SafeCheckout full = new SafeCheckout(24);
    for (int p = 5; p < 24; p++) {
      full.write(p, p);
      full.stage(p);
    }
    Due.is("commit() of a full INDEX", full.commit(), 19);
    Due.is("entry(HEAD, 23)", full.entry(HEAD, 23), 23);
    Due.is("commit() on an empty object", new SafeCheckout(8).commit(), 0);
  }

  private static void setTargetChangesOnePath() {
    SafeCheckout x = busy();
    int[][] want = Due.trees(x);
    int[][] rows = {
      {23, 1}, {23, 1000}, {23, 0}, {4, 7}, {4, 7}, {20, 0}, {0, 0}, {4, 0}, {0, 9}, {23, 0}, {4, 0}, {0, 0}
    };
    for (int[] row : rows) {
      String call = "setTarget(" + row[0] + ", " + row[1] + ")";
      Due.is(call, x.setTarget(row[0], row[1]), true);
      want[TARGET][row[0]] = row[1];
      unchanged(call, x, want);
    }
  }

  private static void setTargetRefusals() {
    SafeCheckout x = busy();
    x.setTarget(20, 8);
    int[][] want = Due.trees(x);
    for (int p : BAD_PATHS) {
      Due.is("setTarget(" + p + ", 5)", x.setTarget(p, 5), false);
      Due.is("setTarget(" + p + ", 0)", x.setTarget(p, 0), false);
    }
    int[] badContents = {Integer.MIN_VALUE, -1000, -1, 1001, 2000, 65537, Integer.MAX_VALUE};
    for (int c : badContents) {
      Due.is("setTarget(5, " + c + ")", x.setTarget(5, c), false);
      Due.is("setTarget(1, " + c + ")", x.setTarget(1, c), false);
    }
    // TARGET holds files at 1, 3 and 20.
    int[] taken = {0, 4, 8, 9, 10, 11, 16, 17, 18, 19};
    for (int p : taken) {
      Due.is("setTarget(" + p + ", 5) above or below a file", x.setTarget(p, 5), false);
    }
    unchanged("refused setTarget", x, want);
    // WORK and INDEX hold a file at 2, which stands in the way of no file of TARGET.
    Due.is("setTarget(12, 5)", x.setTarget(12, 5), true);
    x.setTarget(20, 0);
    Due.is("setTarget(0, 5)", x.setTarget(0, 5), true);
    Due.is("setTarget(20, 5) under a file two steps up", x.setTarget(20, 5), false);
  }

  private static void targetFromHeadCopies() {
    SafeCheckout x = busy();
    x.setTarget(23, 3);
    int[][] want = Due.trees(x);
    want[TARGET] = want[HEAD].clone();
    x.targetFromHead();
    unchanged("targetFromHead()", x, want);
    x.targetFromHead();
    unchanged("targetFromHead() again", x, want);
    // A copy, not a tie: a later commit leaves TARGET as it is.
    x.commit();
    want[HEAD] = want[INDEX].clone();
    unchanged("commit() after targetFromHead()", x, want);
  }

  private static void smallForestHasNoPathAbove() {
    for (int paths = 8; paths <= 24; paths++) {
      SafeCheckout x = new SafeCheckout(paths);
      int last = paths - 1;
      Due.is("write of the last path", x.write(last, 3), true);
      Due.is("write past the last path", x.write(paths, 3), false);
      Due.is("stage of the last path", x.stage(last), true);
      Due.is("stage past the last path", x.stage(paths), false);
      Due.is("setTarget of the last path", x.setTarget(last, 3), true);
      Due.is("setTarget past the last path", x.setTarget(paths, 3), false);
      Due.is("commit()", x.commit(), 1);
      Due.is("delete past the last path", x.delete(paths), -1);
      Due.is("delete of the last path", x.delete(last), 1);
    }
  }
}
