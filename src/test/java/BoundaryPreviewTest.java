/** Promises 10 and 11, preview and lastPath: each sentence that names a boundary. */
public final class BoundaryPreviewTest {
  private static final int OK = SafeCheckout.OK;
  private static final int STAGED = SafeCheckout.REFUSED_STAGED;
  private static final int LOCAL = SafeCheckout.REFUSED_LOCAL;
  private static final int UNTRACKED = SafeCheckout.REFUSED_UNTRACKED;
  private static final int HIDDEN = SafeCheckout.REFUSED_HIDDEN;

  public static void main(String[] args) {
    everyAnswerOfPreview();
    previewOfEmptyTrees();
    previewAnswersAsTheSwitch();
    previewForgetsOnOk();
    previewChangesNoTreeOnOk();
    previewIsNeverForced();
    noSwitchYet();
    lastSwitchWasOk();
    lastSwitchWasRefused();
    refusedCallSetsLastPathAlone();
    theLastOfTwoCountsAlone();
    otherCallsDoNotChangeIt();
    lastPathChangesNothing();
    Due.end();
  }

  private static Scene one(int paths, int p, int h, int i, int w, int t) {
    return new Scene(paths).head(p, h).index(p, i).work(p, w).target(p, t).made();
  }

  /** "answers exactly what switchTo(false) would answer now (OK, REFUSED_STAGED, ...)" */
  private static void everyAnswerOfPreview() {
    Due.about("preview: each of the five answers");
    for (int paths = 8; paths <= 24; paths++) {
      for (int p = 0; p < paths; p++) {
        one(paths, p, 1, 1, 1, 1000).previews(OK, -1);
        one(paths, p, 1, 3, 3, 2).previews(STAGED, p);
        one(paths, p, 1, 1, 3, 2).previews(LOCAL, p);
        one(paths, p, 1, 1, 0, 2).previews(LOCAL, p);
        one(paths, p, 0, 0, 3, 2).previews(UNTRACKED, p);
        int parent = p / 4 - 1;
        if (parent >= 0) {
          new Scene(paths).work(p, 1).target(parent, 2).made().previews(HIDDEN, parent);
          new Scene(paths).index(p, 1).target(parent, 2).made().previews(HIDDEN, parent);
        }
      }
    }
  }

  /** Nothing anywhere: the answer is OK. */
  private static void previewOfEmptyTrees() {
    Due.about("preview of empty trees");
    for (int paths = 8; paths <= 24; paths++) {
      Scene s = new Scene(paths).made();
      s.previews(OK, -1);
      s.previews(OK, -1);
    }
  }

  /** "and sets lastPath() exactly as that call would": beside an object that does switch */
  private static void previewAnswersAsTheSwitch() {
    Due.about("preview: the answer and lastPath() of switchTo(false)");
    for (int mix = 0; mix < 256; mix++) {
      int h = mix / 64;
      int i = mix / 16 % 4;
      int w = mix / 4 % 4;
      int t = mix % 4;
      for (int p = 0; p < 24; p += 23) {
        SafeCheckout shown = one(24, p, h, i, w, t).x;
        SafeCheckout done = one(24, p, h, i, w, t).x;
        String name = "path " + p + " with " + h + ", " + i + ", " + w + ", " + t;
        int answer = shown.preview();
        int last = shown.lastPath();
        Due.is(name + ": preview() and switchTo(false)", answer, done.switchTo(false));
        Due.is(name + ": lastPath() of both", last, done.lastPath());
        Due.is(name + ": switchTo(false) after preview()", shown.switchTo(false), answer);
        Due.is(name + ": lastPath() after both", shown.lastPath(), last);
      }
    }
  }

  /** "the offending path on a refusal, -1 on OK" */
  private static void previewForgetsOnOk() {
    Due.about("preview: -1 on OK");
    Scene s = one(24, 0, 0, 0, 1, 2);
    s.previews(UNTRACKED, 0);
    s.deletes(0, 1, 0);
    s.previews(OK, -1);
    Scene last = one(24, 23, 0, 0, 1, 2);
    last.refuses(UNTRACKED, 23);
    last.setsTarget(23, 0, true);
    last.previews(OK, -1);
  }

  /** "HEAD, INDEX, WORK and TARGET stay unchanged in every case": also where a switch would go through */
  private static void previewChangesNoTreeOnOk() {
    Due.about("preview: no tree changes, also on OK");
    Scene s = new Scene(24).head(0, 1, 1, 2).index(0, 1, 1, 3).work(0, 1, 1, 4).target(1, 3, 23, 5).made();
    s.previews(OK, -1);
    s.previews(OK, -1);
    s.switches(false, Scene.rows(1, 3, 23, 5), Scene.rows(1, 4, 23, 5));
  }

  /** "exactly what switchTo(false) would answer": a forced switch before it makes no difference */
  private static void previewIsNeverForced() {
    Due.about("preview: as switchTo(false), not as switchTo(true)");
    Scene s = one(24, 7, 0, 0, 1, 2);
    s.switches(true, Scene.rows(7, 2), Scene.rows(7, 2));
    s.writes(7, 3, true);
    s.previews(OK, -1);
    s.setsTarget(7, 4, true);
    s.previews(LOCAL, 7);
  }

  /** "It answers -1 if there has been no such call yet" */
  private static void noSwitchYet() {
    Due.about("lastPath: -1 if there has been no such call yet");
    for (int paths = 8; paths <= 24; paths++) {
      SafeCheckout x = new SafeCheckout(paths);
      Due.is("lastPath() of a new object", x.lastPath(), -1);
      x.write(7, 1);
      x.write(paths, 1);
      x.stage(7);
      x.setTarget(7, 2);
      x.commit();
      x.write(7, 3);
      x.targetFromHead();
      x.delete(0);
      Due.is("lastPath() before any switch", x.lastPath(), -1);
    }
  }

  /** "or if that last call answered OK" */
  private static void lastSwitchWasOk() {
    Due.about("lastPath: -1 if the last call answered OK");
    Scene shown = new Scene(24).made();
    shown.previews(OK, -1);
    Scene done = new Scene(24).made();
    done.switches(false, Scene.rows(), Scene.rows());
    Scene forced = new Scene(24).made();
    forced.switches(true, Scene.rows(), Scene.rows());
  }

  /** "Otherwise it answers the path named by that refusal, a value in 0..N-1.": both ends */
  private static void lastSwitchWasRefused() {
    Due.about("lastPath: the path named by the refusal, a value in 0..N-1");
    for (int paths = 8; paths <= 24; paths++) {
      one(paths, 0, 0, 0, 1, 2).refuses(UNTRACKED, 0);
      one(paths, 0, 0, 0, 1, 2).previews(UNTRACKED, 0);
      one(paths, paths - 1, 1, 1, 3, 2).refuses(LOCAL, paths - 1);
      one(paths, paths - 1, 1, 1, 3, 2).previews(LOCAL, paths - 1);
    }
  }

  /** "a refused switchTo or preview changes no tree but does set lastPath()" */
  private static void refusedCallSetsLastPathAlone() {
    Due.about("a refused switchTo or preview changes no tree but does set lastPath()");
    Scene s = Scene.mixed(24);
    // INDEX differs from HEAD at 1, where TARGET has no file.
    s.previews(STAGED, 1);
    s.refuses(STAGED, 1);
    Scene local = new Scene(24).head(1, 1, 5, 2).index(1, 1, 5, 2).work(2, 3, 7, 4).target(1, 1, 3, 5).made();
    local.previews(LOCAL, 5);
    local.refuses(LOCAL, 5);
    Scene untracked = new Scene(24).head(1, 1).index(1, 1, 2, 3).work(1, 1, 19, 4).target(1, 2, 19, 5).made();
    untracked.previews(UNTRACKED, 19);
    untracked.refuses(UNTRACKED, 19);
    Scene hidden = new Scene(24).head(1, 1).index(1, 1).work(1, 1, 20, 4).target(1, 2, 4, 5).made();
    hidden.previews(HIDDEN, 4);
    hidden.refuses(HIDDEN, 4);
  }

  /** "the path recorded by the last call of switchTo or preview" */
  private static void theLastOfTwoCountsAlone() {
    Due.about("lastPath: the last call of switchTo or preview");
    Scene s = new Scene(24).work(3, 1, 22, 1).target(3, 2, 22, 2).made();
    s.previews(UNTRACKED, 3);
    s.deletes(3, 1, 3);
    s.refuses(UNTRACKED, 22);
    s.writes(0, 1, false);
    s.writes(3, 1, true);
    s.refuses(UNTRACKED, 3);
    s.deletes(3, 1, 3);
    s.previews(UNTRACKED, 22);
    s.deletes(22, 1, 22);
    s.previews(OK, -1);
    s.writes(22, 1, true);
    s.previews(UNTRACKED, 22);
    s.switches(true, Scene.rows(3, 2, 22, 2), Scene.rows(3, 2, 22, 2));
  }

  /** "Calls of other methods do not change it.": accepted and refused ones */
  private static void otherCallsDoNotChangeIt() {
    Due.about("lastPath: calls of other methods do not change it");
    Scene s = new Scene(24).work(23, 1).target(23, 2).made();
    s.refuses(UNTRACKED, 23);
    // Each of these looks at lastPath() and the trees after the call.
    s.writes(23, 3, true);
    s.writes(24, 3, false);
    s.writes(0, 3, false);
    s.stages(23, 3);
    s.commits(1);
    s.setsTarget(23, 3, true);
    s.setsTarget(24, 3, false);
    s.takesTargetFromHead();
    s.deletes(0, 1, 23);
    s.deletes(24, -1);
    Due.is("stage(24)", s.x.stage(24), false);
    s.holds("stage(24)");
    s.x.size();
    s.x.entry(0, 23);
    s.x.entry(4, 24);
    s.x.kind(0, 23);
    s.x.kind(4, 24);
    s.x.status(23);
    s.x.status(24);
    s.x.countFiles(0);
    s.x.countFiles(4);
    s.holds("looking");
    new SafeCheckout(24).preview();
    s.holds("preview() of another object");
  }

  /** "It changes nothing." */
  private static void lastPathChangesNothing() {
    Due.about("lastPath: it changes nothing");
    Scene s = Scene.mixed(24);
    Due.is("lastPath()", s.x.lastPath(), Scene.RECORDED);
    Due.is("lastPath() again", s.x.lastPath(), Scene.RECORDED);
    s.holds("lastPath()");
    s.previews(STAGED, 1);
    Due.is("lastPath()", s.x.lastPath(), 1);
    s.refuses(STAGED, 1);
  }
}
