/** Switches a working copy to another tree, and refuses a switch that would lose changes. */
public final class SafeCheckout {
  public static final int MIN_PATHS = 8;
  public static final int MAX_PATHS = 24;
  public static final int MAX_CONTENT = 1000;

  public static final int HEAD = 0;
  public static final int INDEX = 1;
  public static final int WORK = 2;
  public static final int TARGET = 3;

  public static final int KIND_ABSENT = 0;
  public static final int KIND_FILE = 1;
  public static final int KIND_DIR = 2;

  public static final int OK = 0;
  public static final int REFUSED_STAGED = 1;
  public static final int REFUSED_LOCAL = 2;
  public static final int REFUSED_UNTRACKED = 3;
  public static final int REFUSED_HIDDEN = 4;

  public static final int SAME = 0;
  public static final int ADDED = 1;
  public static final int DELETED = 2;
  public static final int MODIFIED = 3;

  // A switch is planned in two trees of its own, so that a refusal has nothing to undo.
  private static final int NEXT_INDEX = 4;
  private static final int NEXT_WORK = 5;
  private static final int CELLS = 6 * MAX_PATHS;

  private static final int BRANCHES = 4;
  private static final int NO_PATH = -1;
  private static final int INVALID = -1;

  // Tree t has its entries at t * MAX_PATHS and after: one array lets a tree be named by number.
  private final int[] cells = new int[CELLS];
  private final int pathCount;
  private int recordedPath;

  public SafeCheckout(int paths) {
    if (paths < MIN_PATHS) {
      pathCount = MIN_PATHS;
    } else {
      pathCount = paths > MAX_PATHS ? MAX_PATHS : paths;
    }
    recordedPath = NO_PATH;
  }

  public int size() {
    return pathCount;
  }

  public boolean write(int p, int c) {
    if (!isPath(p) || c < 1 || c > MAX_CONTENT) {
      return false;
    }
    if (hasFileAbove(WORK, p) || hasFileBelow(WORK, p)) {
      return false;
    }
    put(WORK, p, c);
    return true;
  }

  public int delete(int p) {
    if (!isPath(p)) {
      return INVALID;
    }
    int removed = 0;
    for (int q = p; q < pathCount; q++) {
      if ((q == p || isAbove(p, q)) && get(WORK, q) != 0) {
        put(WORK, q, 0);
        removed++;
      }
    }
    return removed;
  }

  public boolean stage(int p) {
    if (!isPath(p)) {
      return false;
    }
    int content = get(WORK, p);
    put(INDEX, p, content);
    if (content != 0) {
      clearRelatives(INDEX, p);
    }
    return true;
  }

  public int commit() {
    return copyTree(INDEX, HEAD);
  }

  public boolean setTarget(int p, int c) {
    if (!isPath(p) || c < 0 || c > MAX_CONTENT) {
      return false;
    }
    if (c != 0 && (hasFileAbove(TARGET, p) || hasFileBelow(TARGET, p))) {
      return false;
    }
    put(TARGET, p, c);
    return true;
  }

  public void targetFromHead() {
    copyTree(HEAD, TARGET);
  }

  public int switchTo(boolean force) {
    int answer = force ? planForced() : planSafe();
    if (answer == OK) {
      copyTree(TARGET, HEAD);
      copyTree(NEXT_INDEX, INDEX);
      copyTree(NEXT_WORK, WORK);
    }
    return answer;
  }

  public int preview() {
    return planSafe();
  }

  public int lastPath() {
    return recordedPath;
  }

  public int entry(int t, int p) {
    return isTree(t) && isPath(p) ? get(t, p) : INVALID;
  }

  public int kind(int t, int p) {
    if (!isTree(t) || !isPath(p)) {
      return INVALID;
    }
    if (get(t, p) != 0) {
      return KIND_FILE;
    }
    return hasFileBelow(t, p) ? KIND_DIR : KIND_ABSENT;
  }

  public int status(int p) {
    if (!isPath(p)) {
      return INVALID;
    }
    int head = get(HEAD, p);
    int index = get(INDEX, p);
    int work = get(WORK, p);
    return compare(head, index) * 4 + compare(index, work);
  }

  public int countFiles(int t) {
    if (!isTree(t)) {
      return INVALID;
    }
    int files = 0;
    for (int p = 0; p < pathCount; p++) {
      if (get(t, p) != 0) {
        files++;
      }
    }
    return files;
  }

  private boolean isPath(int p) {
    return p >= 0 && p < pathCount;
  }

  // The planning trees are no trees to a caller.
  private static boolean isTree(int t) {
    return t >= HEAD && t <= TARGET;
  }

  private int get(int t, int p) {
    return cells[t * MAX_PATHS + p];
  }

  private void put(int t, int p, int c) {
    cells[t * MAX_PATHS + p] = c;
  }

  private static boolean isAbove(int ancestor, int p) {
    int at = p;
    for (int steps = 0; steps < MAX_PATHS && at >= BRANCHES; steps++) {
      at = at / BRANCHES - 1;
      if (at == ancestor) {
        return true;
      }
    }
    return false;
  }

  // A parent's number is always less than its child's: ancestors come before p, descendants after.
  private boolean hasFileAbove(int t, int p) {
    for (int q = 0; q < p; q++) {
      if (get(t, q) != 0 && isAbove(q, p)) {
        return true;
      }
    }
    return false;
  }

  private boolean hasFileBelow(int t, int p) {
    for (int q = p + 1; q < pathCount; q++) {
      if (get(t, q) != 0 && isAbove(p, q)) {
        return true;
      }
    }
    return false;
  }

  private void clearRelatives(int t, int p) {
    for (int q = 0; q < pathCount; q++) {
      if (isAbove(q, p) || isAbove(p, q)) {
        put(t, q, 0);
      }
    }
  }

  private int copyTree(int from, int to) {
    int changed = 0;
    for (int p = 0; p < pathCount; p++) {
      int content = get(from, p);
      if (get(to, p) != content) {
        put(to, p, content);
        changed++;
      }
    }
    return changed;
  }

  private static int compare(int a, int b) {
    if (a == b) {
      return SAME;
    }
    if (a == 0) {
      return ADDED;
    }
    return b == 0 ? DELETED : MODIFIED;
  }

  private int planSafe() {
    for (int p = 0; p < pathCount; p++) {
      int refusal = planPath(p);
      if (refusal != OK) {
        recordedPath = p;
        return refusal;
      }
    }
    recordedPath = firstHidingPath();
    return recordedPath == NO_PATH ? OK : REFUSED_HIDDEN;
  }

  private int planPath(int p) {
    int head = get(HEAD, p);
    int index = get(INDEX, p);
    int work = get(WORK, p);
    int target = get(TARGET, p);
    if (head == target) {
      planEntries(p, index, work);
      return OK;
    }
    if (work == index && (index == head || index == target)) {
      planEntries(p, target, target);
      return OK;
    }
    if (index == target) {
      planEntries(p, target, work);
      return OK;
    }
    if (index != head) {
      return REFUSED_STAGED;
    }
    return index == 0 ? REFUSED_UNTRACKED : REFUSED_LOCAL;
  }

  private void planEntries(int p, int index, int work) {
    put(NEXT_INDEX, p, index);
    put(NEXT_WORK, p, work);
  }

  private int firstHidingPath() {
    for (int p = 0; p < pathCount; p++) {
      boolean inIndex = get(NEXT_INDEX, p) != 0 && hasFileBelow(NEXT_INDEX, p);
      boolean inWork = get(NEXT_WORK, p) != 0 && hasFileBelow(NEXT_WORK, p);
      if (inIndex || inWork) {
        return p;
      }
    }
    return NO_PATH;
  }

  private int planForced() {
    for (int p = 0; p < pathCount; p++) {
      int target = get(TARGET, p);
      int work = forcedWork(p);
      planEntries(p, target, work);
    }
    recordedPath = NO_PATH;
    return OK;
  }

  private int forcedWork(int p) {
    int target = get(TARGET, p);
    if (get(HEAD, p) != 0 || get(INDEX, p) != 0 || target != 0) {
      return target;
    }
    // An untracked file stays only where it fits beside the target's files.
    if (hasFileAbove(TARGET, p) || hasFileBelow(TARGET, p)) {
      return 0;
    }
    return get(WORK, p);
  }
}
