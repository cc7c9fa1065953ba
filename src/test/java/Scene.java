/** An object brought to wanted trees by calls, and what its trees and lastPath() are to be. */
final class Scene {
  static final int HEAD = SafeCheckout.HEAD;
  static final int INDEX = SafeCheckout.INDEX;
  static final int WORK = SafeCheckout.WORK;
  static final int TARGET = SafeCheckout.TARGET;

  /** What lastPath() answers in a scene that has just been made: not -1, so that a loss shows. */
  static final int RECORDED = 6;

  final SafeCheckout x;
  final int paths;
  private int[][] due;
  private int dueLast = RECORDED;

  /** A scene in the making: its trees are told as rows of a path and a content, then made(). */
  Scene(int paths) {
    this.paths = paths;
    x = new SafeCheckout(paths);
    due = new int[4][paths];
  }

  /** Every tree holds files, no two trees are the same, and every tree has free paths. */
  static Scene mixed(int paths) {
    return new Scene(paths)
        .head(1, 11, 5, 12)
        .index(1, 13, 6, 14)
        .work(2, 15, 7, 16)
        .target(3, 17, 4, 18)
        .made();
  }

  /** The values that are no path for being too small. */
  static int[] pathsTooSmall() {
    return new int[] {-1, -2, -24, -48, Integer.MIN_VALUE, Integer.MIN_VALUE + 1};
  }

  /** The values that are no path of N paths for being too large. */
  static int[] pathsTooLarge(int paths) {
    return new int[] {
      paths, paths + 1, 24, 25, 48, 144, 1 << 29, Integer.MAX_VALUE - 1, Integer.MAX_VALUE
    };
  }

  static int[] rows(int... rows) {
    return rows;
  }

  Scene head(int... rows) {
    return tell(HEAD, rows);
  }

  Scene index(int... rows) {
    return tell(INDEX, rows);
  }

  Scene work(int... rows) {
    return tell(WORK, rows);
  }

  Scene target(int... rows) {
    return tell(TARGET, rows);
  }

  private Scene tell(int t, int[] rows) {
    for (int k = 0; k < rows.length; k += 2) {
      due[t][rows[k]] = rows[k + 1];
    }
    return this;
  }

  Scene made() {
    record();
    fillWork(due[HEAD]);
    stageAll();
    x.commit();
    fillWork(due[INDEX]);
    stageAll();
    fillWork(due[WORK]);
    for (int p = 0; p < paths; p++) {
      x.setTarget(p, due[TARGET][p]);
    }
    holds("making the scene");
    return this;
  }

  private void record() {
    x.setTarget(RECORDED, 1);
    x.write(RECORDED, 2);
    x.preview();
    x.setTarget(RECORDED, 0);
    x.delete(RECORDED);
  }

  private void fillWork(int[] tree) {
    for (int p = 0; p < 4; p++) {
      x.delete(p);
    }
    for (int p = 0; p < paths; p++) {
      if (tree[p] != 0) {
        x.write(p, tree[p]);
      }
    }
  }

  private void stageAll() {
    for (int p = 0; p < paths; p++) {
      x.stage(p);
    }
  }

  /** From now on this entry is due. */
  void becomes(int t, int p, int c) {
    due[t][p] = c;
  }

  /** From now on the tree is due as the other one is due now. */
  void becomes(int t, int other) {
    due[t] = due[other].clone();
  }

  /** From now on the tree is due with these files alone. */
  void becomes(int t, int[] rows) {
    due[t] = new int[paths];
    tell(t, rows);
  }

  void lastBecomes(int path) {
    dueLast = path;
  }

  /** Looks at every entry of every tree, and at lastPath(). */
  void holds(String call) {
    Due.sameTrees(call, x, due);
    Due.is("after " + call + ": lastPath()", x.lastPath(), dueLast);
  }

  void writes(int p, int c, boolean answer) {
    String call = "write(" + p + ", " + c + ")";
    Due.is(call, x.write(p, c), answer);
    if (answer) {
      becomes(WORK, p, c);
    }
    holds(call);
  }

  /** The paths that lose their file are told. */
  void deletes(int p, int answer, int... gone) {
    String call = "delete(" + p + ")";
    Due.is(call, x.delete(p), answer);
    for (int q : gone) {
      becomes(WORK, q, 0);
    }
    holds(call);
  }

  /** The content that INDEX gets at p is told, and the other paths that lose their file there. */
  void stages(int p, int content, int... cleared) {
    String call = "stage(" + p + ")";
    Due.is(call, x.stage(p), true);
    becomes(INDEX, p, content);
    for (int q : cleared) {
      becomes(INDEX, q, 0);
    }
    holds(call);
  }

  void commits(int answer) {
    Due.is("commit()", x.commit(), answer);
    becomes(HEAD, INDEX);
    holds("commit()");
  }

  void setsTarget(int p, int c, boolean answer) {
    String call = "setTarget(" + p + ", " + c + ")";
    Due.is(call, x.setTarget(p, c), answer);
    if (answer) {
      becomes(TARGET, p, c);
    }
    holds(call);
  }

  void takesTargetFromHead() {
    x.targetFromHead();
    becomes(TARGET, HEAD);
    holds("targetFromHead()");
  }

  void previews(int answer, int last) {
    Due.is("preview()", x.preview(), answer);
    lastBecomes(last);
    holds("preview()");
  }

  /** A switch that is not forced is refused with the code at the path. */
  void refuses(int code, int path) {
    Due.is("switchTo(false)", x.switchTo(false), code);
    lastBecomes(path);
    holds("switchTo(false)");
  }

  /** A switch goes through; the files of INDEX and of WORK after it are told. */
  void switches(boolean force, int[] index, int[] work) {
    String call = "switchTo(" + force + ")";
    Due.is(call, x.switchTo(force), SafeCheckout.OK);
    becomes(HEAD, TARGET);
    becomes(INDEX, index);
    becomes(WORK, work);
    lastBecomes(-1);
    holds(call);
  }
}
