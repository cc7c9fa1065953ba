import java.util.ArrayList;
import java.util.List;
import java.util.SortedMap;
import java.util.TreeMap;

/**
 * The document again, in another way: a tree is a map from paths to contents, and the forest is a
 * list of ancestors written out, so that a slip in the class is not likely to be repeated here.
 */
final class Model {
  final int paths;
  final List<SortedMap<Integer, Integer>> trees = new ArrayList<>();
  int lastPath = -1;

  Model(int paths) {
    this.paths = Math.min(24, Math.max(8, paths));
    for (int t = 0; t < 4; t++) {
      trees.add(new TreeMap<>());
    }
  }

  static List<Integer> ancestors(int p) {
    if (p < 4) {
      return List.of();
    }
    if (p < 8) {
      return List.of(0);
    }
    if (p < 12) {
      return List.of(1);
    }
    if (p < 16) {
      return List.of(2);
    }
    return p < 20 ? List.of(3) : List.of(4, 0);
  }

  static boolean related(int p, int q) {
    return ancestors(p).contains(q) || ancestors(q).contains(p);
  }

  boolean isPath(int p) {
    return 0 <= p && p < paths;
  }

  int at(int t, int p) {
    return trees.get(t).getOrDefault(p, 0);
  }

  static void set(SortedMap<Integer, Integer> tree, int p, int c) {
    if (c == 0) {
      tree.remove(p);
    } else {
      tree.put(p, c);
    }
  }

  boolean fits(int t, int p) {
    return trees.get(t).keySet().stream().noneMatch(q -> related(p, q));
  }

  boolean write(int p, int c) {
    if (!isPath(p) || c < 1 || c > 1000 || !fits(2, p)) {
      return false;
    }
    trees.get(2).put(p, c);
    return true;
  }

  int delete(int p) {
    if (!isPath(p)) {
      return -1;
    }
    int before = trees.get(2).size();
    trees.get(2).keySet().removeIf(q -> q == p || ancestors(q).contains(p));
    return before - trees.get(2).size();
  }

  boolean stage(int p) {
    if (!isPath(p)) {
      return false;
    }
    Integer content = trees.get(2).get(p);
    trees.get(1).remove(p);
    if (content != null) {
      trees.get(1).keySet().removeIf(q -> related(p, q));
      trees.get(1).put(p, content);
    }
    return true;
  }

  int commit() {
    int changed = 0;
    for (int p = 0; p < paths; p++) {
      changed += at(0, p) == at(1, p) ? 0 : 1;
    }
    trees.set(0, new TreeMap<>(trees.get(1)));
    return changed;
  }

  boolean setTarget(int p, int c) {
    if (!isPath(p) || c < 0 || c > 1000 || c != 0 && !fits(3, p)) {
      return false;
    }
    set(trees.get(3), p, c);
    return true;
  }

  void targetFromHead() {
    trees.set(3, new TreeMap<>(trees.get(0)));
  }

  int preview() {
    return safe(false);
  }

  int switchTo(boolean force) {
    return force ? forced() : safe(true);
  }

  /** The rules of promise 9 drawn together: (b) with I == T and (c) come to the same. */
  private int safe(boolean carryOut) {
    SortedMap<Integer, Integer> index = new TreeMap<>();
    SortedMap<Integer, Integer> work = new TreeMap<>();
    for (int p = 0; p < paths; p++) {
      boolean moved = at(0, p) != at(3, p);
      boolean clean = at(1, p) == at(0, p) && at(2, p) == at(0, p);
      if (moved && !clean && at(1, p) != at(3, p)) {
        lastPath = p;
        return at(1, p) != at(0, p) ? 1 : at(0, p) != 0 ? 2 : 3;
      }
      set(index, p, moved && clean ? at(3, p) : at(1, p));
      set(work, p, moved && clean ? at(3, p) : at(2, p));
    }
    lastPath = Math.min(leastHiding(index), leastHiding(work));
    if (lastPath < paths) {
      return 4;
    }
    lastPath = -1;
    if (carryOut) {
      carryOut(index, work);
    }
    return 0;
  }

  private int leastHiding(SortedMap<Integer, Integer> tree) {
    return tree.keySet().stream()
        .flatMap(q -> ancestors(q).stream())
        .filter(tree::containsKey)
        .min(Integer::compare)
        .orElse(paths);
  }

  private int forced() {
    SortedMap<Integer, Integer> work = new TreeMap<>(trees.get(2));
    work.keySet().removeIf(p -> at(0, p) != 0 || at(1, p) != 0 || !fits(3, p));
    work.putAll(trees.get(3));
    lastPath = -1;
    carryOut(new TreeMap<>(trees.get(3)), work);
    return 0;
  }

  private void carryOut(SortedMap<Integer, Integer> index, SortedMap<Integer, Integer> work) {
    trees.set(0, new TreeMap<>(trees.get(3)));
    trees.set(1, index);
    trees.set(2, work);
  }

  int entry(int t, int p) {
    return t < 0 || t > 3 || !isPath(p) ? -1 : at(t, p);
  }

  int kind(int t, int p) {
    if (entry(t, p) != 0) {
      return entry(t, p) < 0 ? -1 : 1;
    }
    return trees.get(t).keySet().stream().anyMatch(q -> ancestors(q).contains(p)) ? 2 : 0;
  }

  int status(int p) {
    return isPath(p) ? part(at(0, p), at(1, p)) * 4 + part(at(1, p), at(2, p)) : -1;
  }

  private static int part(int a, int b) {
    if (a != 0 && b != 0) {
      return a == b ? 0 : 3;
    }
    return (b != 0 ? 1 : 0) + (a != 0 ? 2 : 0);
  }

  int countFiles(int t) {
    return t < 0 || t > 3 ? -1 : trees.get(t).size();
  }
}
