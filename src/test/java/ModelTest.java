import java.util.Random;

/** All promises in long runs of mixed calls, beside the model. */
public final class ModelTest {
  private static final int[] ODD = {
    Integer.MIN_VALUE, -25, -4, -1, 0, 4, 8, 24, 25, 1000, 1001, Integer.MAX_VALUE
  };
  private static final int[] answers = new int[5];
  private static Random random;
  private static SafeCheckout x;
  private static Model model;

  public static void main(String[] args) {
    for (int run = 0; run < 600; run++) {
      // The seed is the run's number: every session sees the same calls.
      random = new Random(run);
      int paths = 6 + run % 21;
      x = new SafeCheckout(paths);
      model = new Model(paths);
      Due.is("size()", x.size(), model.paths);
      for (int step = 0; step < 300; step++) {
        String call = "run " + run + ", step " + step + ": " + oneCall();
        compare(call);
      }
    }
    // Runs that never meet an answer would say nothing about it.
    for (int code = 0; code < answers.length; code++) {
      Due.is("answer " + code + " met a hundred times", answers[code] >= 100, true);
    }
    Due.end();
  }

  private static int path() {
    return random.nextInt(40) == 0 ? ODD[random.nextInt(ODD.length)] : random.nextInt(model.paths);
  }

  private static int content() {
    return random.nextInt(40) == 0 ? ODD[random.nextInt(ODD.length)] : random.nextInt(4);
  }

  private static String oneCall() {
    int p = path();
    int c = content();
    String call;
    switch (random.nextInt(16)) {
      case 0: case 1: case 2: case 3:
        call = "write(" + p + ", " + c + ")";
        Due.is(call, x.write(p, c), model.write(p, c));
        return call;
      case 4:
        call = "delete(" + p + ")";
        Due.is(call, x.delete(p), model.delete(p));
        return call;
      case 5: case 6: case 7:
        call = "stage(" + p + ")";
        Due.is(call, x.stage(p), model.stage(p));
        return call;
      case 8:
        call = "commit()";
        Due.is(call, x.commit(), model.commit());
        return call;
      case 9: case 10: case 11:
        call = "setTarget(" + p + ", " + c + ")";
        Due.is(call, x.setTarget(p, c), model.setTarget(p, c));
        return call;
      case 12:
        if (random.nextInt(3) == 0) {
          x.targetFromHead();
          model.targetFromHead();
        }
        return "targetFromHead()";
      case 13:
        Due.is("preview()", x.preview(), model.preview());
        return "preview()";
      default:
        boolean force = random.nextInt(4) == 0;
        int code = model.switchTo(force);
        answers[code] += force ? 0 : 1;
        Due.is("switchTo(" + force + ")", x.switchTo(force), code);
        return "switchTo(" + force + ")";
    }
  }

  private static void compare(String call) {
    Due.is(call + ", then lastPath()", x.lastPath(), model.lastPath);
    for (int t = -1; t <= 5; t++) {
      Due.is(call + ", then countFiles(" + t + ")", x.countFiles(t), model.countFiles(t));
      for (int p = -1; p <= model.paths; p++) {
        String at = "(" + t + ", " + p + ")";
        Due.is(call + ", then entry" + at, x.entry(t, p), model.entry(t, p));
        Due.is(call + ", then kind" + at, x.kind(t, p), model.kind(t, p));
        if (x.entry(t, p) > 0) {
          for (int q : Model.ancestors(p)) {
            Due.is(call + ", then the file above" + at, x.entry(t, q), 0);
          }
        }
      }
    }
    for (int p = -1; p <= model.paths; p++) {
      Due.is(call + ", then status(" + p + ")", x.status(p), model.status(p));
    }
  }
}
