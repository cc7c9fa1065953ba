/** Promise 9, a switch that is not forced: each sentence that names a boundary. */
public final class BoundarySwitchTest {
  private static final int STAGED = SafeCheckout.REFUSED_STAGED;
  private static final int LOCAL = SafeCheckout.REFUSED_LOCAL;
  private static final int UNTRACKED = SafeCheckout.REFUSED_UNTRACKED;
  private static final int HIDDEN = SafeCheckout.REFUSED_HIDDEN;

  // The least and the greatest content, and the ones next to them.
  private static final int A = 1;
  private static final int B = 1000;
  private static final int C = 2;
  private static final int D = 999;

  public static void main(String[] args) {
    emptyTrees();
    everyPathFromFirstToLast();
    ruleACarries();
    ruleBTakesTheTargetOfAPathAsHead();
    ruleBOfAPathAsTarget();
    ruleCCarriesWork();
    ruleDUntracked();
    ruleELocal();
    ruleFStaged();
    firstRuleThatApplies();
    firstPathWhoseRuleRefuses();
    refusalLeavesEarlierPaths();
    rulesAreCheckedBeforeHiddenFiles();
    hiddenInIndexAlone();
    hiddenInWorkAlone();
    hiddenAtEveryDepth();
    hiddenAtTheLeastPath();
    notHiddenAcrossTrees();
    notHiddenBesideOneAnother();
    notHiddenWhereTheFileGoes();
    okMovesHeadOnEveryPath();
    okForgetsTheRecordedPath();
    okKeepsWhatDifferedFromHead();
    Due.end();
  }

  /** One path with its four entries, every other path empty. */
  private static Scene one(int paths, int p, int h, int i, int w, int t) {
    return new Scene(paths).head(p, h).index(p, i).work(p, w).target(p, t).made();
  }

  private static void goes(int p, int h, int i, int w, int t, int index, int work) {
    one(24, p, h, i, w, t).switches(false, Scene.rows(p, index), Scene.rows(p, work));
  }

  /** All trees empty: a switch goes through and changes nothing. */
  private static void emptyTrees() {
    Due.about("switchTo(false) of empty trees");
    for (int paths = 8; paths <= 24; paths++) {
      Scene s = new Scene(paths).made();
      s.switches(false, Scene.rows(), Scene.rows());
      s.switches(false, Scene.rows(), Scene.rows());
    }
  }

  /** "For p = 0, 1, .., N-1 in increasing order": the first and the last path are looked at */
  private static void everyPathFromFirstToLast() {
    Due.about("for p = 0, 1, .., N-1");
    for (int paths = 8; paths <= 24; paths++) {
      for (int p = 0; p < paths; p++) {
        one(paths, p, 0, 0, A, B).refuses(UNTRACKED, p);
        one(paths, p, A, A, C, B).refuses(LOCAL, p);
        one(paths, p, A, C, C, B).refuses(STAGED, p);
        one(paths, p, A, A, A, B).switches(false, Scene.rows(p, B), Scene.rows(p, B));
      }
    }
  }

  /** "(a) H[p] == T[p]: I'[p] = I[p], W'[p] = W[p] (carried)." */
  private static void ruleACarries() {
    Due.about("(a) H == T: carried");
    int[] contents = {0, A, B, C, D};
    for (int h : contents) {
      for (int i : contents) {
        for (int w : contents) {
          goes(0, h, i, w, h, i, w);
          goes(23, h, i, w, h, i, w);
        }
      }
    }
  }

  /** "(b) W[p] == I[p] and (I[p] == H[p] ...": a changed, a new and a removed file */
  private static void ruleBTakesTheTargetOfAPathAsHead() {
    Due.about("(b) W == I and I == H: the target content");
    int[] paths = {0, 3, 4, 23};
    for (int p : paths) {
      goes(p, A, A, A, B, B, B);
      goes(p, B, B, B, A, A, A);
      goes(p, 0, 0, 0, A, A, A);
      goes(p, 0, 0, 0, B, B, B);
      goes(p, A, A, A, 0, 0, 0);
      goes(p, B, B, B, 0, 0, 0);
    }
  }

  /** "(b) W[p] == I[p] and (... or I[p] == T[p])" */
  private static void ruleBOfAPathAsTarget() {
    Due.about("(b) W == I and I == T: the target content");
    int[] paths = {0, 3, 4, 23};
    for (int p : paths) {
      goes(p, A, B, B, B, B, B);
      goes(p, 0, A, A, A, A, A);
      goes(p, A, 0, 0, 0, 0, 0);
    }
  }

  /** "(c) I[p] == T[p]: I'[p] = T[p], W'[p] = W[p] (carried)." */
  private static void ruleCCarriesWork() {
    Due.about("(c) I == T: W is carried");
    int[] paths = {0, 3, 4, 23};
    for (int p : paths) {
      goes(p, A, B, C, B, B, C);
      goes(p, A, B, A, B, B, A);
      goes(p, A, B, 0, B, B, 0);
      goes(p, 0, B, C, B, B, C);
      goes(p, 0, B, 0, B, B, 0);
      goes(p, A, 0, C, 0, 0, C);
      goes(p, A, 0, A, 0, 0, A);
    }
  }

  /** "(d) I[p] == H[p] and I[p] == 0: refuse with REFUSED_UNTRACKED at p." */
  private static void ruleDUntracked() {
    Due.about("(d) I == H and I == 0: REFUSED_UNTRACKED");
    int[] paths = {0, 3, 4, 23};
    for (int p : paths) {
      one(24, p, 0, 0, A, B).refuses(UNTRACKED, p);
      one(24, p, 0, 0, B, A).refuses(UNTRACKED, p);
      // The same content as TARGET's is refused too: the file is untracked all the same.
      one(24, p, 0, 0, A, A).refuses(UNTRACKED, p);
      one(24, p, 0, 0, B, B).refuses(UNTRACKED, p);
    }
  }

  /** "(e) I[p] == H[p]: refuse with REFUSED_LOCAL at p." */
  private static void ruleELocal() {
    Due.about("(e) I == H: REFUSED_LOCAL");
    int[] paths = {0, 3, 4, 23};
    for (int p : paths) {
      one(24, p, A, A, C, B).refuses(LOCAL, p);
      one(24, p, B, B, C, A).refuses(LOCAL, p);
      one(24, p, A, A, 0, B).refuses(LOCAL, p);
      one(24, p, A, A, B, B).refuses(LOCAL, p);
      one(24, p, A, A, C, 0).refuses(LOCAL, p);
      one(24, p, A, A, 0, 0).refuses(LOCAL, p);
    }
  }

  /** "(f) otherwise: refuse with REFUSED_STAGED at p." */
  private static void ruleFStaged() {
    Due.about("(f) otherwise: REFUSED_STAGED");
    int[] works = {0, A, B, C, D};
    for (int w : works) {
      one(24, 0, A, C, w, B).refuses(STAGED, 0);
      one(24, 23, A, C, w, B).refuses(STAGED, 23);
      one(24, 4, 0, C, w, B).refuses(STAGED, 4);
      one(24, 4, A, 0, w, B).refuses(STAGED, 4);
      one(24, 4, A, C, w, 0).refuses(STAGED, 4);
    }
  }

  /** "the first rule that applies to p": where two rules apply, the earlier one is taken */
  private static void firstRuleThatApplies() {
    Due.about("the first rule that applies to p");
    // (a) before (d), (e) and (f): local work stays where the target is as HEAD.
    goes(7, 0, 0, C, 0, 0, C);
    goes(7, A, A, C, A, A, C);
    goes(7, A, C, C, A, C, C);
    goes(7, A, C, A, A, C, A);
    // (b) before (e): a clean path is no local change.
    goes(7, A, A, A, B, B, B);
    // (b) before (d): nothing at the path is no untracked file.
    goes(7, 0, 0, 0, B, B, B);
    // (d) before (e): without a file in HEAD and INDEX the answer is REFUSED_UNTRACKED.
    one(24, 7, 0, 0, C, B).refuses(UNTRACKED, 7);
    // (c) before (f): what is staged as the target is no staged change against it.
    goes(7, A, B, C, B, B, C);
  }

  /** "At the first path whose rule refuses, the call ends: the answer is that code" */
  private static void firstPathWhoseRuleRefuses() {
    Due.about("at the first path whose rule refuses, the call ends");
    int[][] entries = {{0, 0, A, B, UNTRACKED}, {A, A, C, B, LOCAL}, {A, C, C, B, STAGED}};
    int[][] pairs = {{0, 1}, {0, 19}, {1, 23}, {3, 4}, {5, 19}, {22, 23}};
    for (int[] first : entries) {
      for (int[] second : entries) {
        for (int[] pair : pairs) {
          Scene s = new Scene(24)
              .head(pair[0], first[0], pair[1], second[0])
              .index(pair[0], first[1], pair[1], second[1])
              .work(pair[0], first[2], pair[1], second[2])
              .target(pair[0], first[3], pair[1], second[3])
              .made();
          s.refuses(first[4], pair[0]);
        }
      }
    }
  }

  /** "and all four trees stay unchanged": also at the paths before p, whose rules would change them */
  private static void refusalLeavesEarlierPaths() {
    Due.about("a refusal: all four trees stay unchanged");
    Scene s = new Scene(24)
        .head(1, A, 2, A, 23, A)
        .index(1, A, 2, A, 23, A)
        .work(1, A, 2, A)
        .target(1, B, 3, C, 5, D)
        .made();
    s.refuses(LOCAL, 23);
    s.refuses(LOCAL, 23);
    Scene hidden = new Scene(24).head(1, A).index(1, A).work(1, A, 23, C).target(0, B, 1, B, 2, C).made();
    hidden.refuses(HIDDEN, 0);
    hidden.refuses(HIDDEN, 0);
    // What a refused switch had planned is nothing to the switch after it.
    hidden.deletes(23, 1, 23);
    hidden.setsTarget(2, 0, true);
    hidden.switches(false, Scene.rows(0, B, 1, B), Scene.rows(0, B, 1, B));
  }

  /** "Step 2. If no rule refused": a rule's refusal at the last path goes before a hidden file at 0 */
  private static void rulesAreCheckedBeforeHiddenFiles() {
    Due.about("the hidden-file check only after all rules");
    Scene s = new Scene(24).work(4, A, 19, C).target(0, B, 19, B).made();
    s.refuses(UNTRACKED, 19);
    s.deletes(19, 1, 19);
    s.refuses(HIDDEN, 0);
    Scene last = new Scene(24).work(8, A, 23, C).target(1, B, 23, B).made();
    last.refuses(UNTRACKED, 23);
    Scene staged = new Scene(24).head(19, A).index(19, C, 4, A).target(0, B, 19, D).made();
    staged.refuses(STAGED, 19);
  }

  /** "p holds a file in I' and some proper descendant of p holds a file in I'" */
  private static void hiddenInIndexAlone() {
    Due.about("hidden in I' alone");
    for (int q = 4; q < 24; q++) {
      int parent = q / 4 - 1;
      Scene under = new Scene(24).index(q, A).target(parent, B).made();
      under.refuses(HIDDEN, parent);
      Scene over = new Scene(24).index(parent, A).target(q, B).made();
      over.refuses(HIDDEN, parent);
    }
  }

  /** "or p holds a file in W' and some proper descendant of p holds a file in W'" */
  private static void hiddenInWorkAlone() {
    Due.about("hidden in W' alone");
    for (int q = 4; q < 24; q++) {
      int parent = q / 4 - 1;
      Scene under = new Scene(24).work(q, A).target(parent, B).made();
      under.refuses(HIDDEN, parent);
      Scene over = new Scene(24).work(parent, A).target(q, B).made();
      over.refuses(HIDDEN, parent);
    }
    for (int paths = 8; paths <= 24; paths++) {
      int last = paths - 1;
      Scene s = new Scene(paths).work(last, A).target(last / 4 - 1, B).made();
      s.refuses(HIDDEN, last / 4 - 1);
    }
  }

  /** "some proper descendant of p": two steps down as well as one */
  private static void hiddenAtEveryDepth() {
    Due.about("hidden two steps down");
    for (int q = 20; q < 24; q++) {
      new Scene(24).work(q, A).target(0, B).made().refuses(HIDDEN, 0);
      new Scene(24).work(0, A).target(q, B).made().refuses(HIDDEN, 0);
      new Scene(24).index(q, A).target(0, B).made().refuses(HIDDEN, 0);
      new Scene(24).index(0, A).target(q, B).made().refuses(HIDDEN, 0);
      new Scene(24).work(q, A).target(4, B).made().refuses(HIDDEN, 4);
      new Scene(24).work(4, A).target(q, B).made().refuses(HIDDEN, 4);
    }
  }

  /** "let p be the least path such that" */
  private static void hiddenAtTheLeastPath() {
    Due.about("hidden at the least path");
    new Scene(24).work(8, A, 12, A, 16, A).target(1, B, 2, B, 3, B).made().refuses(HIDDEN, 1);
    new Scene(24).index(8, A, 12, A, 16, A).target(1, B, 2, B, 3, B).made().refuses(HIDDEN, 1);
    new Scene(24).index(19, A).work(8, A).target(1, B, 3, B).made().refuses(HIDDEN, 1);
    new Scene(24).index(8, A).work(19, A).target(1, B, 3, B).made().refuses(HIDDEN, 1);
    // One tree hides at 0 and the other one at 4, which lies under 0.
    new Scene(24).index(20, A).work(0, A).target(4, B).made().refuses(HIDDEN, 0);
    new Scene(24).index(0, A).work(20, A).target(4, B).made().refuses(HIDDEN, 0);
    // The least path of all, not the one with the least file below it.
    new Scene(24).work(23, A, 8, A).target(0, B, 1, B).made().refuses(HIDDEN, 0);
    new Scene(24).work(23, A, 8, A).target(4, B, 1, B).made().refuses(HIDDEN, 1);
  }

  /** A file in one tree and a file below it in another tree alone: no tree hides anything. */
  private static void notHiddenAcrossTrees() {
    Due.about("not hidden: p in I' and its descendant in W'");
    Scene down = new Scene(24).index(0, A).work(23, B).made();
    down.switches(false, Scene.rows(0, A), Scene.rows(23, B));
    Scene up = new Scene(24).index(23, A).work(0, B).made();
    up.switches(false, Scene.rows(23, A), Scene.rows(0, B));
    Scene near = new Scene(24).index(4, A).work(0, B).target(1, C).made();
    near.switches(false, Scene.rows(4, A, 1, C), Scene.rows(0, B, 1, C));
  }

  /** Files beside one another, as many as there can be, hide nothing. */
  private static void notHiddenBesideOneAnother() {
    Due.about("not hidden: no file is above another one");
    Scene tops = new Scene(24).work(0, A, 1, A, 2, A).target(3, B).made();
    tops.switches(false, Scene.rows(3, B), Scene.rows(0, A, 1, A, 2, A, 3, B));
    Scene leaves = new Scene(24).work(5, A, 20, A, 8, A).index(6, A, 21, A).target(7, B, 23, B, 11, B).made();
    leaves.switches(false,
        Scene.rows(6, A, 21, A, 7, B, 23, B, 11, B),
        Scene.rows(5, A, 20, A, 8, A, 7, B, 23, B, 11, B));
  }

  /** "holds a file in I'", not in I: a file that the switch itself takes away hides nothing */
  private static void notHiddenWhereTheFileGoes() {
    Due.about("not hidden: I' and W' count, not I and W");
    int[] tracked = Scene.rows(5, A, 20, A, 23, A);
    Scene up = new Scene(24).head(tracked).index(tracked).work(tracked).target(0, B).made();
    up.switches(false, Scene.rows(0, B), Scene.rows(0, B));
    Scene down = new Scene(24).head(0, B).index(0, B).work(0, B).target(tracked).made();
    down.switches(false, tracked, tracked);
    Scene middle = new Scene(24).head(4, B).index(4, B).work(4, B).target(23, A).made();
    middle.switches(false, Scene.rows(23, A), Scene.rows(23, A));
  }

  /** "Step 3. Otherwise HEAD := T, INDEX := I', WORK := W' (all paths), TARGET stays unchanged" */
  private static void okMovesHeadOnEveryPath() {
    Due.about("OK: HEAD := T, INDEX := I', WORK := W' on all paths");
    for (int paths = 8; paths <= 24; paths++) {
      int last = paths - 1;
      int[] before = Scene.rows(0, A, 1, A, 2, A, 3, A);
      Scene s = new Scene(paths).head(before).index(before).work(before).target(last, B, 5, C).made();
      s.switches(false, Scene.rows(last, B, 5, C), Scene.rows(last, B, 5, C));
      s.takesTargetFromHead();
      s.switches(false, Scene.rows(last, B, 5, C), Scene.rows(last, B, 5, C));
      s.setsTarget(last, 0, true);
      s.switches(false, Scene.rows(5, C), Scene.rows(5, C));
    }
  }

  /** "lastPath() becomes -1, and the answer is OK" */
  private static void okForgetsTheRecordedPath() {
    Due.about("OK: lastPath() becomes -1");
    Scene s = one(24, 0, 0, 0, A, B);
    s.refuses(UNTRACKED, 0);
    s.deletes(0, 1, 0);
    s.switches(false, Scene.rows(0, B), Scene.rows(0, B));
    Scene last = one(24, 23, 0, 0, A, B);
    last.refuses(UNTRACKED, 23);
    last.setsTarget(23, 0, true);
    last.switches(false, Scene.rows(), Scene.rows(23, A));
  }

  /**
   * "INDEX[p] is I[p] or T[p], and is I[p] whenever I[p] != H[p]; WORK[p] is W[p] or T[p], and is
   * W[p] whenever W[p] != H[p]": at every mix of entries on one path
   */
  private static void okKeepsWhatDifferedFromHead() {
    Due.about("a switch that is not forced loses nothing that differed from HEAD");
    int[] contents = {0, A, B, C, D};
    for (int h : contents) {
      for (int i : contents) {
        for (int w : contents) {
          for (int t : contents) {
            keeps(0, h, i, w, t);
            keeps(23, h, i, w, t);
          }
        }
      }
    }
  }

  private static void keeps(int p, int h, int i, int w, int t) {
    SafeCheckout x = one(24, p, h, i, w, t).x;
    String name = "path " + p + " with " + h + ", " + i + ", " + w + ", " + t;
    boolean ok = x.switchTo(false) == SafeCheckout.OK;
    int index = x.entry(Scene.INDEX, p);
    int work = x.entry(Scene.WORK, p);
    Due.is(name + ": HEAD", x.entry(Scene.HEAD, p), ok ? t : h);
    Due.is(name + ": TARGET", x.entry(Scene.TARGET, p), t);
    Due.is(name + ": INDEX is I or T", index == i || ok && index == t, true);
    Due.is(name + ": WORK is W or T", work == w || ok && work == t, true);
    Due.is(name + ": INDEX is I where I is not H", i == h || index == i, true);
    Due.is(name + ": WORK is W where W is not H", w == h || work == w, true);
  }
}
