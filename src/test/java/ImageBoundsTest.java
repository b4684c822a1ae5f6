/** The bounds of promises 23 to 25, a scene for each sentence that names one. */
public final class ImageBoundsTest {
  private static final int BAD = RefusedMayAsk.BAD, STATE = RefusedMayAsk.STATE;
  private static final int FULL = RefusedMayAsk.FULL, NONE = RefusedMayAsk.NONE;
  private static final Due DUE = new Due();

  public static void main(String[] args) {
    howManyMen();
    imageAgain();
    imageChangesNothing();
    noImage();
    backToNobody();
    backToAll();
    allThatIsKept();
    allThatIsNotKept();
    whoComesAgain();
    countsOfWhat();
    countsAtTheirBounds();
    DUE.end();
  }

  private static Scene scene(int promise, String sentence) {
    return new Scene(DUE, promise, sentence);
  }

  private static Scene rich(int promise, String sentence) {
    return Scene.rich(DUE, promise, sentence);
  }

  private static Scene square(int promise, String sentence) {
    return scene(promise, sentence).first("man(0)", "man(1)", "man(2)", "man(3)")
        .first("maid(1, 0)", "maid(1, 1)", "maid(1, 2)", "maid(1, 3)");
  }

  // ---- promise 23

  private static void howManyMen() {
    Scene s = scene(23, "AN IMAGE is kept: how many MEN").is("image()", 0).first("maid(0, 0)").is("image()", 0);
    for (int men = 1; men <= 4; men++) {
      s.first("man(9)").is("image()", men);
    }
    s.refused("man(9)", FULL).is("image()", 4);
    rich(23, "AN IMAGE is kept: how many MEN").is("image()", 3);
  }

  private static void imageAgain() {
    scene(23, "a later IMAGE is THE IMAGE").first("man(0)").is("image()", 1).first("man(1)", "set(2, 0, 7)")
        .is("image()", 2).first("man(2)", "set(2, 0, 8)").is("back()", 2).is("count(3)", 7).is("of(1, 5)", 1)
        .refused("of(2, 5)", BAD);
  }

  private static void imageChangesNothing() {
    Scene s = rich(23, "AN IMAGE is kept: all stays as it is");
    long[] counts = {3, 3, 1, 31, 2, 15, 1};
    s.first("set(2, 0, 31)").is("image()", 3);
    for (int what = 0; what < counts.length; what++) {
      s.is("count(" + what + ")", counts[what]);
    }
    s.is("told(0, 1, 0)", 12).is("told(1, 1, 1)", 71).is("of(1, 5)", 2).is("of(0, 1)", 2).is("of(0, 6)", 0);
  }

  // ---- promise 24

  private static void noImage() {
    scene(24, "STATE: there is none").refused("back()", STATE);
    square(24, "STATE: there is none").first("likes(3, 3, 0, 9)", "set(2, 0, 9)", "ask(0, 0)")
        .refused("back()", STATE).is("image()", 4).is("back()", 4);
  }

  private static void backToNobody() {
    Scene s = scene(24, "MEN, MAIDS that came since go: all of them").is("image()", 0);
    s.first("man(1)", "man(2)", "man(3)", "man(4)", "maid(1, 0)", "maid(1, 1)", "maid(1, 2)", "maid(1, 3)");
    s.first("likes(0, 0, 0, 1)", "likes(3, 3, 1, 99)", "ask(0, 0)", "ask(3, 3)").is("back()", 0);
    long[] counts = {0, 0, 0, 0, 1, 0, 0};
    for (int what = 0; what < counts.length; what++) {
      s.is("count(" + what + ")", counts[what]);
    }
    s.refused("told(0, 0, 0)", BAD).refused("of(0, 0)", BAD).refused("of(0, 5)", BAD).refused("part(0)", BAD);
    s.is("back()", 0);
  }

  private static void backToAll() {
    square(24, "THE IMAGE of 4 and 4").first("image()", "ask(0, 0)", "ask(3, 3)", "set(0, 1, 9)", "set(1, 2, 9)")
        .is("back()", 4).is("count(0)", 4).is("count(1)", 4).is("count(2)", 0).is("count(3)", 0)
        .is("of(1, 5)", 1).is("of(2, 1)", 2).is("of(3, 6)", NONE).is("of(3, 4)", NONE).refused("man(0)", FULL)
        .refused("maid(0, 0)", FULL);
  }

  private static void allThatIsKept() {
    Scene s = square(24, "who likes whom, NOES, who is MARRIED, THE MONTH, NUMBERS, THE RULE");
    s.read("takes 1;worth 1;wants 1;", 1);
    for (int i = 0; i < 4; i++) {
      s.first("likes(" + i + ", " + (3 - i) + ", 0, " + (90 + i) + ")");
      s.first("likes(" + i + ", " + i + ", 1, " + (80 + i) + ")");
    }
    s.first("ask(1, 2)", "ask(2, 1)", "set(2, 0, 99)", "force(1)").is("image()", 4);
    s.first("part(1)", "part(2)", "ask(3, 1)", "set(2, 0, 3)", "force(0)");
    for (int i = 0; i < 4; i++) {
      s.first("likes(" + i + ", " + (3 - i) + ", 0, 0)", "likes(" + i + ", " + i + ", 1, 0)");
      s.first("set(0, " + i + ", 9)", "set(1, " + i + ", 9)");
    }
    for (int time = 0; time < 2; time++) {
      s.is("back()", 4);
      for (int i = 0; i < 4; i++) {
        s.is("told(" + i + ", " + (3 - i) + ", 0)", 90 + i).is("told(" + i + ", " + i + ", 1)", 80 + i);
        s.is("of(" + i + ", 5)", i).is("of(" + i + ", 1)", i).is("of(" + i + ", 6)", i == 1 || i == 2 ? 3 - i : NONE);
        s.is("of(" + i + ", 4)", i == 1 || i == 2 ? 3 - i : NONE);
      }
      s.is("count(2)", 2).is("count(3)", 99).is("count(6)", 1).first("part(1)", "set(2, 0, 0)", "force(0)");
    }
  }

  private static void allThatIsNotKept() {
    scene(24, "All that it keeps: not TEXTS, THE TAPE, SHEETS").first("man(0)", "maid(1, 0)").is("image()", 1)
        .read("takes 1;worth 7;wants 1;", 1).fed("takes").lay(0, 0, 0).is("back()", 1).is("count(4)", 2)
        .is("count(5)", 5).is("row(0)", 3).is("force(1)", 0).is("told(0, 0, 4)", 7);
    rich(24, "All that it keeps").is("back()", 2).is("count(4)", 2).is("count(5)", 15).is("count(6)", 0)
        .is("count(3)", 30).is("count(2)", 0).is("told(0, 1, 0)", 11).is("told(1, 1, 1)", 50).is("of(1, 5)", 4)
        .is("of(0, 1)", 3).refused("of(2, 5)", BAD).refused("of(2, 1)", BAD);
  }

  private static void whoComesAgain() {
    Scene s = scene(24, "MEN, MAIDS that came since go: others come as at first").first("man(0)", "maid(1, 0)");
    s.is("image()", 1).first("man(1)", "maid(4, 1)", "man(2)", "maid(1, 2)", "ask(2, 2)");
    for (int a = 0; a < 3; a++) {
      for (int b = 0; b < 3; b++) {
        s.first("likes(" + a + ", " + b + ", 0, 1)", "likes(" + a + ", " + b + ", 1, 2)");
      }
    }
    s.is("back()", 1).is("man(9)", 1).is("maid(5, 9)", 1).is("man(8)", 2).is("maid(3, 8)", 2);
    for (int a = 0; a < 3; a++) {
      for (int b = 0; b < 3; b++) {
        s.is("told(" + a + ", " + b + ", 0)", 50).is("told(" + a + ", " + b + ", 1)", 50);
      }
      s.is("of(" + a + ", 6)", NONE).is("of(" + a + ", 4)", NONE);
    }
    s.is("of(1, 5)", 9).is("of(1, 0)", 5).is("of(1, 1)", 9).is("of(2, 5)", 8).is("of(2, 0)", 3).is("of(2, 1)", 8);
    s.is("back()", 1).is("count(0)", 1).is("count(1)", 1);
  }

  // ---- promise 25

  private static void countsOfWhat() {
    rich(25, "0 .. 6: BAD").outside("count(%)", 0, 6, BAD).still("count(0)", 3).still("count(6)", 1);
    scene(25, "0 .. 6: BAD").outside("count(%)", 0, 6, BAD);
  }

  private static void countsAtTheirBounds() {
    Scene s = square(25, "how many, as many as there can be");
    for (int i = 0; i < 4; i++) {
      s.is("count(2)", i).is("ask(" + i + ", " + i + ")", 1);
    }
    s.is("count(0)", 4).is("count(1)", 4).is("count(2)", 4).is("count(3)", 4).first("set(2, 0, 99)").is("count(3)", 99);
    for (int text = 1; text <= 5; text++) {
      s.is("count(4)", text).read("takes 1;worth 1;wants 1;", text);
    }
    s.is("count(4)", 6).is("count(6)", 0).is("force(5)", 0).is("count(6)", 5);
    Scene tape = scene(25, "bytes of THE TAPE, as many as there can be");
    for (int i = 0; i < 160; i++) {
      tape.is("count(5)", i).first("feed(1)");
    }
    tape.is("count(5)", 160).first("feed(1)").is("count(5)", 160).first("text()").is("count(5)", 0);
  }
}
