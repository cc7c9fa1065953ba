import java.util.ArrayList;
import java.util.List;

/** Promises 9 and 10 at every mix of four entries on one path, and of four trees on three paths. */
public final class SwitchTableTest {
  private static final int PATHS = 24;

  public static void main(String[] args) {
    everyMixOnOnePath();
    everyMixOnThreePaths(0, 4, 20);
    everyMixOnThreePaths(0, 4, 23);
    everyMixOnThreePaths(3, 16, 23);
    Due.end();
  }

  /** Brings a new object to the four trees by calls; each tree is well formed. */
  private static SafeCheckout build(int[][] trees) {
    SafeCheckout x = new SafeCheckout(PATHS);
    fillWork(x, trees[0]);
    stageAll(x);
    x.commit();
    fillWork(x, trees[1]);
    stageAll(x);
    fillWork(x, trees[2]);
    for (int p = 0; p < PATHS; p++) {
      x.setTarget(p, trees[3][p]);
    }
    Due.sameTrees("building", x, trees);
    return x;
  }

  private static void fillWork(SafeCheckout x, int[] tree) {
    for (int p = 0; p < 4; p++) {
      x.delete(p);
    }
    for (int p = 0; p < PATHS; p++) {
      if (tree[p] != 0) {
        x.write(p, tree[p]);
      }
    }
  }

  private static void stageAll(SafeCheckout x) {
    for (int p = 0; p < PATHS; p++) {
      x.stage(p);
    }
  }

  private static void everyMixOnOnePath() {
    int[] paths = {0, 3, 4, 15, 23};
    for (int p : paths) {
      // Five values: none, and as many contents as there are trees.
      for (int mix = 0; mix < 625; mix++) {
        int h = mix / 125;
        int i = mix / 25 % 5;
        int w = mix / 5 % 5;
        int t = mix % 5;
        onePath(p, h, i, w, t);
      }
    }
  }

  private static void onePath(int p, int h, int i, int w, int t) {
    int[][] trees = new int[4][PATHS];
    trees[0][p] = h;
    trees[1][p] = i;
    trees[2][p] = w;
    trees[3][p] = t;
    String name = "path " + p + " with " + h + ", " + i + ", " + w + ", " + t;
    boolean taken = h != t && w == i && (i == h || i == t);
    int code = h == t || taken || i == t ? 0 : i != h ? 1 : i != 0 ? 2 : 3;
    int[][] want = copy(trees);
    if (code == 0) {
      want[0][p] = t;
      want[1][p] = taken ? t : i;
      want[2][p] = taken ? t : w;
    }
    SafeCheckout x = build(trees);
    Due.is(name + ": preview()", x.preview(), code);
    Due.is(name + ": lastPath()", x.lastPath(), code == 0 ? -1 : p);
    Due.sameTrees(name + ": preview()", x, trees);
    Due.is(name + ": switchTo(false)", x.switchTo(false), code);
    Due.is(name + ": lastPath()", x.lastPath(), code == 0 ? -1 : p);
    Due.sameTrees(name + ": switchTo(false)", x, want);

    SafeCheckout y = build(trees);
    want = copy(trees);
    want[0][p] = t;
    want[1][p] = t;
    want[2][p] = h + i + t == 0 ? w : t;
    Due.is(name + ": switchTo(true)", y.switchTo(true), 0);
    Due.is(name + ": lastPath()", y.lastPath(), -1);
    Due.sameTrees(name + ": switchTo(true)", y, want);
  }

  private static int[][] copy(int[][] trees) {
    int[][] all = new int[trees.length][];
    for (int t = 0; t < trees.length; t++) {
      all[t] = trees[t].clone();
    }
    return all;
  }

  private static void everyMixOnThreePaths(int... three) {
    List<int[]> shapes = shapes(three);
    for (int[] h : shapes) {
      for (int[] i : shapes) {
        for (int[] w : shapes) {
          for (int[] t : shapes) {
            int[][] trees = {h, i, w, t};
            besideModel(trees, false);
            besideModel(trees, true);
          }
        }
      }
    }
  }

  /** The well formed trees with contents 1 and 2 on three paths. */
  private static List<int[]> shapes(int[] three) {
    List<int[]> shapes = new ArrayList<>();
    for (int mix = 0; mix < 27; mix++) {
      int[] tree = new int[PATHS];
      tree[three[0]] = mix / 9;
      tree[three[1]] = mix / 3 % 3;
      tree[three[2]] = mix % 3;
      if (wellFormed(tree)) {
        shapes.add(tree);
      }
    }
    return shapes;
  }

  private static boolean wellFormed(int[] tree) {
    for (int p = 0; p < PATHS; p++) {
      for (int q : Model.ancestors(p)) {
        if (tree[p] != 0 && tree[q] != 0) {
          return false;
        }
      }
    }
    return true;
  }

  private static void besideModel(int[][] trees, boolean force) {
    Model model = new Model(PATHS);
    for (int t = 0; t < 4; t++) {
      for (int p = 0; p < PATHS; p++) {
        Model.set(model.trees.get(t), p, trees[t][p]);
      }
    }
    SafeCheckout x = build(trees);
    if (!force) {
      Due.is("preview()", x.preview(), model.preview());
      Due.is("lastPath() after preview()", x.lastPath(), model.lastPath);
      Due.sameTrees("preview()", x, trees);
    }
    String call = "switchTo(" + force + ")";
    Due.is(call, x.switchTo(force), model.switchTo(force));
    Due.is("lastPath() after " + call, x.lastPath(), model.lastPath);
    int[][] want = new int[4][PATHS];
    for (int t = 0; t < 4; t++) {
      for (int p = 0; p < PATHS; p++) {
        want[t][p] = model.at(t, p);
      }
    }
    Due.sameTrees(call, x, want);
    int[][] after = Due.trees(x);
    for (int t = 0; t < 4; t++) {
      Due.is("tree " + t + " well formed after " + call, wellFormed(after[t]), true);
    }
  }
}
