/** Promises 9 to 11: switchTo, preview and lastPath, by cases written out by hand. */
public final class SwitchTest {
  private static final int HEAD = SafeCheckout.HEAD;
  private static final int INDEX = SafeCheckout.INDEX;
  private static final int WORK = SafeCheckout.WORK;
  private static final int OK = SafeCheckout.OK;
  private static final int STAGED = SafeCheckout.REFUSED_STAGED;
  private static final int LOCAL = SafeCheckout.REFUSED_LOCAL;
  private static final int UNTRACKED = SafeCheckout.REFUSED_UNTRACKED;
  private static final int HIDDEN = SafeCheckout.REFUSED_HIDDEN;

  public static void main(String[] args) {
    emptySwitch();
    cleanPathsTakeTheTarget();
    localChangesAreCarried();
    stagedAsTheTargetIsCarried();
    refusals();
    leastPathIsNamed();
    rulesComeBeforeTheHiddenFile();
    hiddenInWork();
    hiddenInIndex();
    hiddenNamesTheLeastPath();
    hiddenTwoStepsDown();
    directoryTurnsIntoFile();
    forcedSwitch();
    forcedKeepsUntrackedThatFits();
    forcedDropsWhatTargetHides();
    lastPathIsKeptByOtherCalls();
    Due.end();
  }

  private static void track(SafeCheckout x, int p, int c) {
    x.write(p, c);
    x.stage(p);
    x.commit();
  }

  /** Asks for a refusal by preview and by switchTo, and looks that no tree changes. */
  private static void refused(String name, SafeCheckout x, int code, int path) {
    int[][] before = Due.trees(x);
    Due.is(name + ": preview()", x.preview(), code);
    Due.is(name + ": lastPath() after preview()", x.lastPath(), path);
    Due.sameTrees(name + ": preview()", x, before);
    Due.is(name + ": switchTo(false)", x.switchTo(false), code);
    Due.is(name + ": lastPath() after switchTo(false)", x.lastPath(), path);
    Due.sameTrees(name + ": switchTo(false)", x, before);
  }

  /** Asks for a switch that goes through: INDEX and WORK are given, HEAD becomes TARGET. */
  private static void goes(String name, SafeCheckout x, int[][] want) {
    int[][] before = Due.trees(x);
    Due.is(name + ": preview()", x.preview(), OK);
    Due.is(name + ": lastPath() after preview()", x.lastPath(), -1);
    Due.sameTrees(name + ": preview()", x, before);
    Due.is(name + ": switchTo(false)", x.switchTo(false), OK);
    Due.is(name + ": lastPath() after switchTo(false)", x.lastPath(), -1);
    want[HEAD] = before[SafeCheckout.TARGET].clone();
    Due.sameTrees(name + ": switchTo(false)", x, want);
  }

  private static void emptySwitch() {
    SafeCheckout x = new SafeCheckout(24);
    goes("empty", x, Due.trees(x));
    Due.is("empty: switchTo(true)", x.switchTo(true), OK);
    Due.sameTrees("empty: switchTo(true)", x, new int[4][24]);
  }

  private static void cleanPathsTakeTheTarget() {
    SafeCheckout x = new SafeCheckout(24);
    track(x, 0, 1);
    track(x, 1, 2);
    x.targetFromHead();
    x.setTarget(0, 0);
    x.setTarget(1, 3);
    x.setTarget(23, 4);
    int[][] want = Due.trees(x);
    int[][] rows = {{0, 0}, {1, 3}, {23, 4}};
    for (int[] row : rows) {
      want[INDEX][row[0]] = row[1];
      want[WORK][row[0]] = row[1];
    }
    goes("clean", x, want);
    goes("clean, again", x, Due.trees(x));
  }

  private static void localChangesAreCarried() {
    SafeCheckout x = new SafeCheckout(24);
    track(x, 0, 1);
    track(x, 1, 2);
    track(x, 2, 3);
    x.targetFromHead();
    x.setTarget(2, 4);
    x.write(0, 5);
    x.stage(0);
    x.write(0, 6);
    x.delete(1);
    x.write(19, 7);
    int[][] want = Due.trees(x);
    want[INDEX][2] = 4;
    want[WORK][2] = 4;
    goes("carried", x, want);
  }

  private static void stagedAsTheTargetIsCarried() {
    SafeCheckout x = new SafeCheckout(24);
    track(x, 0, 1);
    track(x, 1, 2);
    track(x, 2, 3);
    x.setTarget(0, 8);
    x.setTarget(1, 9);
    x.setTarget(19, 5);
    x.write(0, 8);
    x.stage(0);
    x.write(1, 9);
    x.stage(1);
    x.write(1, 10);
    x.delete(2);
    x.stage(2);
    x.write(2, 11);
    x.write(19, 5);
    x.stage(19);
    x.delete(19);
    goes("staged as the target", x, Due.trees(x));
  }

  private static void refusals() {
    SafeCheckout x = new SafeCheckout(24);
    x.setTarget(5, 1);
    x.write(5, 2);
    refused("untracked file", x, UNTRACKED, 5);
    x.write(5, 1);
    refused("untracked file as in the target", x, UNTRACKED, 5);

    SafeCheckout y = new SafeCheckout(24);
    track(y, 5, 1);
    y.setTarget(5, 2);
    y.write(5, 3);
    refused("local change", y, LOCAL, 5);
    y.write(5, 2);
    refused("local change as in the target", y, LOCAL, 5);
    y.delete(5);
    refused("local deletion", y, LOCAL, 5);
    y.setTarget(5, 0);
    refused("local deletion as in the target", y, LOCAL, 5);
    y.stage(5);
    y.setTarget(5, 2);
    refused("staged deletion", y, STAGED, 5);

    SafeCheckout z = new SafeCheckout(24);
    track(z, 5, 1);
    z.setTarget(5, 2);
    z.write(5, 3);
    z.stage(5);
    refused("staged change", z, STAGED, 5);
    z.write(5, 1);
    refused("staged change, WORK as HEAD", z, STAGED, 5);
    z.write(5, 2);
    refused("staged change, WORK as TARGET", z, STAGED, 5);
    z.delete(5);
    refused("staged change, deleted", z, STAGED, 5);

    SafeCheckout n = new SafeCheckout(24);
    n.setTarget(0, 2);
    n.write(0, 3);
    n.stage(0);
    refused("staged new file", n, STAGED, 0);
  }

  private static void leastPathIsNamed() {
    SafeCheckout x = new SafeCheckout(24);
    track(x, 7, 1);
    x.setTarget(7, 2);
    x.write(7, 3);
    x.setTarget(23, 1);
    x.write(23, 2);
    refused("local at 7, untracked at 23", x, LOCAL, 7);
    x.setTarget(3, 1);
    x.write(3, 2);
    refused("untracked at 3, local at 7", x, UNTRACKED, 3);
    x.setTarget(2, 1);
    x.write(2, 2);
    x.stage(2);
    refused("staged at 2, untracked at 3", x, STAGED, 2);
    x.setTarget(2, 0);
    x.setTarget(3, 0);
    x.setTarget(7, 1);
    refused("untracked at 23 alone", x, UNTRACKED, 23);
  }

  private static void rulesComeBeforeTheHiddenFile() {
    SafeCheckout x = new SafeCheckout(24);
    x.setTarget(0, 1);
    x.write(5, 2);
    refused("hidden alone", x, HIDDEN, 0);
    x.setTarget(19, 1);
    x.write(19, 2);
    refused("hidden at 0, untracked at 19", x, UNTRACKED, 19);
  }

  private static void hiddenInWork() {
    SafeCheckout x = new SafeCheckout(24);
    x.setTarget(2, 1);
    x.write(15, 2);
    refused("target file above an untracked file", x, HIDDEN, 2);
    SafeCheckout y = new SafeCheckout(24);
    y.setTarget(15, 1);
    y.write(2, 2);
    refused("target file below an untracked file", y, HIDDEN, 2);
    // A local file in the place of a directory, whose files are deleted but not staged so.
    SafeCheckout z = new SafeCheckout(24);
    track(z, 15, 1);
    z.targetFromHead();
    z.setTarget(14, 1);
    z.delete(15);
    z.write(2, 3);
    refused("target file below a local file", z, HIDDEN, 2);
  }

  private static void hiddenInIndex() {
    // WORK is empty, so that INDEX alone can hide.
    SafeCheckout x = new SafeCheckout(24);
    x.write(15, 2);
    x.stage(15);
    x.delete(15);
    x.setTarget(2, 1);
    int[][] before = Due.trees(x);
    Due.is("INDEX alone has a file at 15", before[INDEX][15] - before[WORK][15], 2);
    refused("target file above a staged file", x, HIDDEN, 2);
    SafeCheckout y = new SafeCheckout(24);
    y.write(2, 2);
    y.stage(2);
    y.delete(2);
    y.setTarget(15, 1);
    refused("target file below a staged file", y, HIDDEN, 2);
  }

  private static void hiddenNamesTheLeastPath() {
    // INDEX hides at 3, WORK at 1, and then the other way round.
    SafeCheckout x = new SafeCheckout(24);
    x.write(19, 2);
    x.stage(19);
    x.delete(19);
    x.write(8, 2);
    x.setTarget(3, 1);
    x.setTarget(1, 1);
    refused("WORK hides first", x, HIDDEN, 1);
    SafeCheckout y = new SafeCheckout(24);
    y.write(8, 2);
    y.stage(8);
    y.delete(8);
    y.write(19, 2);
    y.setTarget(3, 1);
    y.setTarget(1, 1);
    refused("INDEX hides first", y, HIDDEN, 1);
  }

  private static void hiddenTwoStepsDown() {
    SafeCheckout x = new SafeCheckout(24);
    x.setTarget(0, 1);
    x.write(23, 2);
    refused("two steps down", x, HIDDEN, 0);
    x.setTarget(0, 0);
    x.setTarget(4, 1);
    refused("one step down, deep", x, HIDDEN, 4);
    SafeCheckout y = new SafeCheckout(24);
    y.setTarget(20, 1);
    y.write(0, 2);
    refused("two steps up", y, HIDDEN, 0);
    y.delete(0);
    y.write(4, 2);
    refused("one step up, deep", y, HIDDEN, 4);
  }

  private static void directoryTurnsIntoFile() {
    SafeCheckout x = new SafeCheckout(24);
    track(x, 20, 1);
    track(x, 5, 2);
    x.setTarget(0, 3);
    int[][] want = new int[4][24];
    want[INDEX][0] = 3;
    want[WORK][0] = 3;
    want[SafeCheckout.TARGET][0] = 3;
    goes("directory into file", x, want);
    x.setTarget(0, 0);
    x.setTarget(21, 4);
    want = new int[4][24];
    want[INDEX][21] = 4;
    want[WORK][21] = 4;
    want[SafeCheckout.TARGET][21] = 4;
    goes("file into directory", x, want);
  }

  private static void forced(String name, SafeCheckout x, int... workRows) {
    int[][] before = Due.trees(x);
    int[][] want = new int[4][];
    want[HEAD] = before[SafeCheckout.TARGET].clone();
    want[INDEX] = want[HEAD].clone();
    want[SafeCheckout.TARGET] = want[HEAD].clone();
    want[WORK] = want[HEAD].clone();
    for (int k = 0; k < workRows.length; k += 2) {
      want[WORK][workRows[k]] = workRows[k + 1];
    }
    Due.is(name + ": switchTo(true)", x.switchTo(true), OK);
    Due.is(name + ": lastPath() after switchTo(true)", x.lastPath(), -1);
    Due.sameTrees(name + ": switchTo(true)", x, want);
  }

  private static void forcedSwitch() {
    SafeCheckout x = new SafeCheckout(24);
    track(x, 0, 1);
    track(x, 1, 2);
    x.targetFromHead();
    x.setTarget(1, 3);
    x.write(0, 4);
    x.write(1, 5);
    x.stage(1);
    x.write(2, 6);
    x.stage(2);
    x.write(3, 7);
    refused("before the forced switch", x, STAGED, 1);
    // Local changes are lost even where TARGET is as HEAD; the file that is only staged goes too.
    forced("forced", x, 3, 7);
    x.setTarget(3, 8);
    refused("before the second forced switch", x, UNTRACKED, 3);
    forced("forced over an untracked file", x);
    x.setTarget(0, 0);
    x.setTarget(1, 0);
    x.setTarget(3, 0);
    x.delete(0);
    x.write(5, 9);
    forced("forced to an empty tree", x, 5, 9);
  }

  private static void forcedKeepsUntrackedThatFits() {
    SafeCheckout x = new SafeCheckout(24);
    x.setTarget(4, 1);
    x.write(5, 2);
    x.write(1, 3);
    x.write(19, 4);
    forced("untracked files beside the target", x, 5, 2, 1, 3, 19, 4);
    // The file above is tracked and goes away; the files under it in WORK are untracked and stay.
    SafeCheckout y = new SafeCheckout(24);
    track(y, 0, 1);
    y.delete(0);
    y.write(20, 2);
    y.write(7, 3);
    forced("untracked files under a file that goes", y, 20, 2, 7, 3);
    // What is tracked only in HEAD goes, and what is tracked only in INDEX goes.
    SafeCheckout z = new SafeCheckout(24);
    track(z, 1, 1);
    z.delete(1);
    z.stage(1);
    z.write(1, 4);
    z.write(2, 5);
    z.stage(2);
    z.write(3, 6);
    forced("tracked in one tree", z, 3, 6);
  }

  private static void forcedDropsWhatTargetHides() {
    SafeCheckout x = new SafeCheckout(24);
    x.setTarget(0, 1);
    x.write(20, 2);
    x.write(5, 3);
    x.write(8, 4);
    forced("untracked files below a target file", x, 8, 4);
    SafeCheckout y = new SafeCheckout(24);
    y.setTarget(20, 1);
    y.write(0, 2);
    forced("untracked file two steps above a target file", y);
    SafeCheckout z = new SafeCheckout(24);
    z.setTarget(20, 1);
    z.write(4, 2);
    z.write(6, 3);
    forced("untracked file above a target file", z, 6, 3);
  }

  private static void lastPathIsKeptByOtherCalls() {
    SafeCheckout x = new SafeCheckout(24);
    x.setTarget(6, 1);
    x.write(6, 2);
    Due.is("lastPath() before any switch", x.lastPath(), -1);
    refused("untracked at 6", x, UNTRACKED, 6);
    x.write(7, 1);
    x.write(99, 1);
    x.delete(6);
    x.delete(99);
    x.stage(7);
    x.stage(99);
    x.commit();
    x.setTarget(6, 0);
    x.setTarget(99, 0);
    x.targetFromHead();
    x.size();
    x.entry(0, 0);
    x.kind(0, 0);
    x.status(0);
    x.countFiles(0);
    Due.is("lastPath() after other calls", x.lastPath(), 6);
    Due.is("lastPath() again", x.lastPath(), 6);
    Due.is("preview()", x.preview(), OK);
    Due.is("lastPath() after OK", x.lastPath(), -1);
    x.write(7, 5);
    x.setTarget(7, 6);
    Due.is("switchTo(false)", x.switchTo(false), LOCAL);
    Due.is("lastPath() after a refused switch", x.lastPath(), 7);
    Due.is("switchTo(true)", x.switchTo(true), OK);
    Due.is("lastPath() after a forced switch", x.lastPath(), -1);
    x.write(7, 5);
    x.setTarget(7, 4);
    Due.is("preview()", x.preview(), LOCAL);
    x.write(7, 6);
    Due.is("switchTo(false)", x.switchTo(false), OK);
    Due.is("lastPath() after a switch", x.lastPath(), -1);
  }
}
