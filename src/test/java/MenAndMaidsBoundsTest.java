/** The bounds of promises 1 to 7, a scene for each sentence that names one. */
public final class MenAndMaidsBoundsTest {
  private static final int BAD = RefusedMayAsk.BAD, STATE = RefusedMayAsk.STATE;
  private static final int FULL = RefusedMayAsk.FULL, NONE = RefusedMayAsk.NONE;
  private static final int NOTHING = -11;
  private static final Due DUE = new Due();

  public static void main(String[] args) {
    newObject();
    menOf0To9();
    fourMen();
    menAtFirst();
    maidsOfKinds();
    maidsOf0To9();
    fourMaids();
    maidsAtFirst();
    likings0To99();
    likingsOfWhom();
    likingsOfNobody();
    noesOf0To9();
    numbersOf0To9();
    monthsOf0To99();
    settingsOfWhat();
    toldOfWhom();
    mayAskAtHerNeeds();
    mayAskUnlessMarried();
    refusesAtHerBounds();
    takesDecides();
    worthAtItsBounds();
    wantsWhatIsNotZero();
    ofWhom();
    needsByNumbers();
    priceZeroAtLeast();
    marriedToWhom();
    DUE.end();
  }

  private static Scene scene(int promise, String sentence) {
    return new Scene(DUE, promise, sentence);
  }

  private static Scene rich(int promise, String sentence) {
    return Scene.rich(DUE, promise, sentence);
  }

  private static Scene square(int promise, String sentence) {
    return scene(promise, sentence).first("man(0)", "man(1)", "man(2)", "man(3)")
        .first("maid(0, 0)", "maid(1, 1)", "maid(2, 2)", "maid(3, 3)");
  }

  // ---- promise 1

  private static void newObject() {
    Scene s = scene(1, "Nobody.");
    long[] counts = {0, 0, 0, 0, 1, 0, 0};
    for (int what = 0; what < counts.length; what++) {
      s.still("count(" + what + ")", counts[what]);
    }
    String[] ofSomebody = {"likes(0, 0, 0, 0)", "set(0, 0, 0)", "set(1, 0, 0)", "told(0, 0, 0)",
        "of(0, 0)", "of(0, 5)", "ask(0, 0)", "part(0)", "way(0, 0, 0, 0)", "mistake(0)", "sure(0)",
        "best(0, 0)", "best(1, 0)"};
    for (String call : ofSomebody) {
      s.refused(call, BAD);
    }
    s.refused("taken(0, 0)", NOTHING).refused("back()", STATE).refused("force(1)", BAD);
    for (int sheet = 0; sheet < 4; sheet++) {
      s.refused("row(" + sheet + ")", NOTHING).refused("judge(" + sheet + ", 0)", NOTHING);
      s.refused("cell(" + sheet + ", 0, 0)", NOTHING).refused("likings(" + sheet + ", 0, 0, 0)", NOTHING);
      s.refused("copy(" + sheet + ", 0, " + sheet + ", 0, 0)", NOTHING);
    }
    s.still("pairings(0)", 1).still("pairings(1)", 1).still("best(0, NONE)", 0).still("best(1, NONE)", 0);
    long[] years = {0, 0, 0, NONE, NONE, NONE, NONE};
    for (int what = 0; what < years.length; what++) {
      s.still("year(12, " + what + ")", years[what]);
    }
    s.still("drawn(0)", 1).still("chance(0, 20, 0)", 1).still("chance(0, 20, 1)", 1);
    s.still("text()", -100);
    s.is("image()", 0).is("back()", 0);
  }

  // ---- promise 2

  private static void menOf0To9() {
    scene(2, "A MAN with NOES (0 .. 9): his number. BAD").outside("man(%)", 0, 9, BAD)
        .is("man(0)", 0).is("man(9)", 1).is("of(0, 5)", 0).is("of(1, 5)", 9);
    rich(2, "A MAN with NOES (0 .. 9): BAD").outside("man(%)", 0, 9, BAD).is("man(9)", 3);
  }

  private static void fourMen() {
    scene(2, "MEN 4 at most, numbered as they come: FULL").is("man(3)", 0).is("man(2)", 1).is("man(1)", 2)
        .is("man(0)", 3).refused("man(0)", FULL).refused("man(9)", FULL).is("of(3, 5)", 0).is("count(0)", 4);
    scene(2, "BAD; FULL: the first that is named").first("man(0)", "man(0)", "man(0)", "man(0)")
        .outside("man(%)", 0, 9, BAD);
    rich(2, "FULL").is("man(9)", 3).refused("man(0)", FULL).is("maid(0, 0)", 3);
  }

  private static void menAtFirst() {
    Scene s = scene(2, "all 50 at first, nobody MARRIED at first").first("maid(0, 0)", "maid(1, 1)");
    s.is("man(7)", 0).is("man(8)", 1).is("maid(3, 0)", 2);
    for (int man = 0; man < 2; man++) {
      for (int maid = 0; maid < 3; maid++) {
        s.is("told(" + man + ", " + maid + ", 0)", 50).is("told(" + man + ", " + maid + ", 1)", 50);
      }
      s.is("of(" + man + ", 6)", NONE);
    }
  }

  // ---- promise 3

  private static void maidsOfKinds() {
    for (int kind = 0; kind <= 5; kind++) {
      scene(3, "KIND 0 .. 5").is("maid(" + kind + ", 9)", 0).is("of(0, 0)", kind).is("of(0, 1)", 9);
    }
    scene(3, "KIND 0 .. 5: BAD").outside("maid(%, 0)", 0, 5, BAD).is("maid(5, 0)", 0);
    rich(3, "KIND 0 .. 5: BAD").outside("maid(%, 0)", 0, 5, BAD).is("maid(0, 0)", 3);
  }

  private static void maidsOf0To9() {
    scene(3, "NUMBER (0 .. 9): BAD").outside("maid(0, %)", 0, 9, BAD).is("maid(0, 0)", 0).is("maid(0, 9)", 1)
        .is("of(0, 1)", 0).is("of(1, 1)", 9);
    rich(3, "NUMBER (0 .. 9): BAD").outside("maid(5, %)", 0, 9, BAD);
  }

  private static void fourMaids() {
    scene(3, "MAIDS 4 at most, numbered as they come: FULL").is("maid(5, 1)", 0).is("maid(4, 2)", 1)
        .is("maid(3, 3)", 2).is("maid(2, 4)", 3).refused("maid(0, 0)", FULL).refused("maid(5, 9)", FULL)
        .is("of(3, 0)", 2).is("of(3, 1)", 4).is("count(1)", 4);
    scene(3, "BAD; FULL: the first that is named")
        .first("maid(0, 0)", "maid(0, 0)", "maid(0, 0)", "maid(0, 0)")
        .outside("maid(%, 0)", 0, 5, BAD).outside("maid(0, %)", 0, 9, BAD);
    rich(3, "FULL").is("maid(0, 0)", 3).refused("maid(0, 0)", FULL).is("man(0)", 3);
  }

  private static void maidsAtFirst() {
    Scene s = scene(3, "all 50 at first, nobody MARRIED at first").first("man(0)", "man(1)");
    s.is("maid(4, 0)", 0).is("maid(5, 1)", 1).is("man(2)", 2);
    for (int maid = 0; maid < 2; maid++) {
      for (int man = 0; man < 3; man++) {
        s.is("told(" + man + ", " + maid + ", 0)", 50).is("told(" + man + ", " + maid + ", 1)", 50);
      }
      s.is("of(" + maid + ", 4)", NONE);
    }
  }

  // ---- promise 4

  private static void likings0To99() {
    for (int what = 0; what < 2; what++) {
      square(4, what == 0 ? "HE likes HER (0 .. 99)" : "SHE likes HIM (0 .. 99)")
          .is("likes(0, 0, " + what + ", 0)", 50).is("told(0, 0, " + what + ")", 0)
          .is("likes(0, 0, " + what + ", 99)", 0).is("told(0, 0, " + what + ")", 99)
          .is("told(0, 0, " + (1 - what) + ")", 50)
          .outside("likes(0, 0, " + what + ", %)", 0, 99, BAD)
          .is("likes(0, 0, " + what + ", 1)", 99);
      rich(4, "likes 0 .. 99: BAD").outside("likes(1, 2, " + what + ", %)", 0, 99, BAD);
    }
  }

  private static void likingsOfWhom() {
    square(4, "MEN 0 .. n - 1, MAIDS 0 .. m - 1, what 0, 1: BAD").is("likes(3, 0, 0, 7)", 50)
        .is("likes(0, 3, 1, 8)", 50).is("likes(3, 3, 0, 9)", 50).is("told(3, 0, 0)", 7).is("told(0, 3, 1)", 8)
        .outside("likes(%, 0, 0, 1)", 0, 3, BAD).outside("likes(0, %, 0, 1)", 0, 3, BAD)
        .outside("likes(0, 0, %, 1)", 0, 1, BAD);
    rich(4, "MEN 0 .. n - 1, MAIDS 0 .. m - 1, what 0, 1: BAD").outside("likes(%, 0, 0, 1)", 0, 2, BAD)
        .outside("likes(0, %, 1, 1)", 0, 2, BAD).outside("likes(0, 0, %, 1)", 0, 1, BAD)
        .is("likes(2, 2, 1, 0)", 50).is("likes(2, 2, 1, 99)", 0);
  }

  private static void likingsOfNobody() {
    scene(4, "no MAN: BAD").first("maid(0, 0)").refused("likes(0, 0, 0, 1)", BAD).refused("likes(0, 0, 1, 1)", BAD);
    scene(4, "no MAID: BAD").first("man(0)").refused("likes(0, 0, 0, 1)", BAD).refused("likes(0, 0, 1, 1)", BAD);
  }

  // ---- promise 5

  private static void noesOf0To9() {
    square(5, "NOES (0 .. 9) of a MAN become v: what it was. BAD").is("set(0, 0, 9)", 0).is("set(0, 0, 0)", 9)
        .is("set(0, 3, 9)", 3).is("of(3, 5)", 9).is("of(0, 5)", 0).is("of(1, 5)", 1)
        .outside("set(0, 0, %)", 0, 9, BAD).outside("set(0, %, 1)", 0, 3, BAD);
    rich(5, "NOES of a MAN (what 0): BAD").outside("set(0, 2, %)", 0, 9, BAD).outside("set(0, %, 1)", 0, 2, BAD);
    scene(5, "NOES of nobody: BAD").first("maid(0, 0)").refused("set(0, 0, 0)", BAD);
  }

  private static void numbersOf0To9() {
    square(5, "NUMBER (0 .. 9) of a MAID becomes v: what it was. BAD").is("set(1, 0, 9)", 0)
        .is("set(1, 0, 0)", 9).is("set(1, 3, 9)", 3).is("of(3, 1)", 9).is("of(0, 1)", 0).is("of(1, 1)", 1)
        .outside("set(1, 0, %)", 0, 9, BAD).outside("set(1, %, 1)", 0, 3, BAD);
    rich(5, "NUMBER of a MAID (1): BAD").outside("set(1, 2, %)", 0, 9, BAD).outside("set(1, %, 1)", 0, 2, BAD);
    scene(5, "NUMBER of nobody: BAD").first("man(0)").refused("set(1, 0, 0)", BAD);
  }

  private static void monthsOf0To99() {
    scene(5, "THE MONTH (0 .. 99) becomes v: what it was. BAD").is("set(2, 0, 99)", 0).is("count(3)", 99)
        .outside("set(2, 0, %)", 0, 99, BAD).is("set(2, 0, 0)", 99).is("count(3)", 0);
    rich(5, "THE MONTH (0 .. 99): BAD").outside("set(2, 0, %)", 0, 99, BAD);
    scene(5, "THE MONTH (2; of does not matter)").is("set(2, -1, 1)", 0).is("set(2, 4, 2)", 1)
        .is("set(2, MIN, 3)", 2).is("set(2, MAX, 4)", 3).refused("set(2, MAX, 100)", BAD).is("count(3)", 4);
  }

  private static void settingsOfWhat() {
    rich(5, "what 0, 1, 2: BAD").outside("set(%, 0, 1)", 0, 2, BAD);
  }

  // ---- promise 6

  private static void toldOfWhom() {
    square(6, "of a MAN and a MAID, 0 .. 5: BAD").still("told(3, 3, 0)", 50).still("told(3, 3, 5)", 1)
        .outside("told(%, 0, 0)", 0, 3, BAD).outside("told(0, %, 0)", 0, 3, BAD).outside("told(0, 0, %)", 0, 5, BAD);
    Scene s = rich(6, "of a MAN and a MAID, 0 .. 5: BAD");
    for (int what = 0; what < 6; what++) {
      s.outside("told(%, 0, " + what + ")", 0, 2, BAD).outside("told(0, %, " + what + ")", 0, 2, BAD);
    }
    long[] of11 = {50, 71, 1, 0, 50, 1};
    for (int what = 0; what < 6; what++) {
      s.still("told(1, 1, " + what + ")", of11[what]);
    }
  }

  private static final int[][] NEEDS = {{1, 1, 1, 1, 1, 1, 1, 1, 1, 1}, {0, 0, 0, 0, 0, 0, 0, 0, 0, 0},
      {1, 2, 3, 1, 2, 3, 1, 2, 3, 1}, {2, 3, 4, 2, 3, 4, 2, 3, 4, 2}, {0, 0, 0, 0, 0, 0, 0, 0, 0, 0},
      {0, 1, 0, 1, 0, 1, 0, 1, 0, 1}};

  private static void mayAskAtHerNeeds() {
    for (int kind = 0; kind < 6; kind++) {
      Scene s = scene(6, "as many NOES as she NEEDS, or more: KIND " + kind).first("man(0)", "maid(" + kind + ", 0)");
      for (int number = 0; number < 10; number++) {
        int needs = NEEDS[kind][number];
        s.first("set(1, 0, " + number + ")", "set(0, 0, " + needs + ")").is("told(0, 0, 2)", 1);
        s.first("set(0, 0, 9)").is("told(0, 0, 2)", 1);
        if (needs > 0) {
          s.first("set(0, 0, " + (needs - 1) + ")").is("told(0, 0, 2)", 0);
        }
      }
    }
  }

  private static void mayAskUnlessMarried() {
    scene(6, "MAY ASK, if neither is MARRIED").first("man(0)", "man(0)", "maid(1, 0)", "maid(1, 0)", "ask(0, 0)")
        .is("told(0, 0, 2)", 0).is("told(0, 1, 2)", 0).is("told(1, 0, 2)", 0).is("told(1, 1, 2)", 1)
        .first("part(0)").is("told(0, 0, 2)", 1).is("told(0, 1, 2)", 1).is("told(1, 0, 2)", 1);
  }

  /** Each: what is said, KIND, NUMBER, how she likes him, his NOES, whether she SAYS NO. */
  private static void refusesAtHerBounds() {
    refuses("MAID: if s is below 50", 0, 0, new int[][] {{0, 0, 1}, {49, 0, 1}, {50, 0, 0}, {99, 9, 0}, {49, 9, 1}});
    refuses("PLAIN: and s is below 10 times NUMBER", 1, 0, new int[][] {{0, 0, 0}, {49, 9, 0}});
    refuses("PLAIN: and s is below 10 times NUMBER", 1, 1, new int[][] {{0, 0, 1}, {9, 0, 1}, {10, 0, 0}});
    refuses("PLAIN: and s is below 10 times NUMBER", 1, 4, new int[][] {{39, 0, 1}, {40, 0, 0}, {49, 0, 0}});
    refuses("PLAIN: if a MAID would", 1, 5, new int[][] {{49, 0, 1}, {50, 0, 0}});
    refuses("PLAIN: if a MAID would", 1, 9, new int[][] {{49, 9, 1}, {50, 9, 0}, {89, 0, 0}});
    refuses("PROUD: if a MAID would, or k is above 2", 2, 9,
        new int[][] {{49, 0, 1}, {50, 0, 0}, {50, 2, 0}, {50, 3, 1}, {99, 2, 0}, {99, 3, 1}, {99, 9, 1}, {49, 2, 1}});
    refuses("WIDOW: if a PROUD would, or s is below 70", 3, 9,
        new int[][] {{49, 0, 1}, {50, 0, 1}, {69, 2, 1}, {70, 2, 0}, {70, 3, 1}, {99, 0, 0}, {99, 9, 1}});
    refuses("AUNT: yes", 4, 0, new int[][] {{0, 0, 1}, {50, 0, 1}, {99, 0, 1}, {99, 9, 1}});
    refuses("AUNT: yes", 4, 9, new int[][] {{0, 0, 1}, {99, 0, 1}, {99, 1, 1}});
    refuses("FLIRT: if k and NUMBER together are odd", 5, 0, new int[][] {{0, 0, 0}, {99, 1, 1}, {0, 8, 0},
        {99, 9, 1}});
    refuses("FLIRT: if k and NUMBER together are odd", 5, 9, new int[][] {{99, 0, 1}, {0, 1, 0}, {99, 8, 1},
        {0, 9, 0}});
  }

  private static void refuses(String words, int kind, int number, int[][] rows) {
    Scene s = scene(6, "SHE SAYS NO, if she REFUSES: " + words);
    s.first("man(0)", "maid(" + kind + ", " + number + ")");
    for (int[] r : rows) {
      s.first("likes(0, 0, 1, " + r[0] + ")", "set(0, 0, " + r[1] + ")").is("told(0, 0, 3)", r[2]);
    }
  }

  private static void takesDecides() {
    scene(6, "takes: not 0; else she refuses, too").first("man(0)", "maid(1, 0)", "maid(4, 0)")
        .read("takes 0;worth 1;wants 1;", 1).read("takes-1;worth 1;wants 1;", 2)
        .read("takes 8192*8192*32;worth 1;wants 1;", 3).read("takes 8192*8192*64;worth 1;wants 1;", 4)
        .first("force(1)").is("told(0, 0, 3)", 1).is("told(0, 1, 3)", 1)
        .first("force(2)").is("told(0, 0, 3)", 0).is("told(0, 1, 3)", 1)
        .first("force(3)").is("told(0, 0, 3)", 0).first("force(4)").is("told(0, 0, 3)", 1);
  }

  private static void worthAtItsBounds() {
    scene(6, "worth 0 .. 99, else the bound").first("man(0)", "maid(0, 0)")
        .read("takes 1;worth 0-noes;wants 1;", 1).read("takes 1;worth 98+noes;wants 1;", 2)
        .read("takes 1;worth 8192*8192*32-noes;wants 1;", 3)
        .first("force(1)").is("told(0, 0, 4)", 0).first("set(0, 0, 1)").is("told(0, 0, 4)", 0)
        .first("force(2)").is("told(0, 0, 4)", 99).first("set(0, 0, 0)").is("told(0, 0, 4)", 98)
        .first("set(0, 0, 2)").is("told(0, 0, 4)", 99)
        .first("force(3)", "set(0, 0, 0)").is("told(0, 0, 4)", 0)
        .first("set(0, 0, 1)").is("told(0, 0, 4)", 99);
    scene(6, "worth like + hers - 50").first("man(0)", "maid(0, 0)", "likes(0, 0, 0, 0)", "likes(0, 0, 1, 49)")
        .is("told(0, 0, 4)", 0).first("likes(0, 0, 1, 50)").is("told(0, 0, 4)", 0)
        .first("likes(0, 0, 1, 51)").is("told(0, 0, 4)", 1).first("likes(0, 0, 0, 99)", "likes(0, 0, 1, 49)")
        .is("told(0, 0, 4)", 98).first("likes(0, 0, 1, 50)").is("told(0, 0, 4)", 99)
        .first("likes(0, 0, 1, 99)").is("told(0, 0, 4)", 99);
  }

  private static void wantsWhatIsNotZero() {
    scene(6, "wants 30 < like").first("man(0)", "maid(0, 0)", "likes(0, 0, 0, 30)").is("told(0, 0, 5)", 0)
        .first("likes(0, 0, 0, 31)").is("told(0, 0, 5)", 1).first("likes(0, 0, 0, 0)").is("told(0, 0, 5)", 0)
        .first("likes(0, 0, 0, 99)").is("told(0, 0, 5)", 1);
    scene(6, "wants: whether he would ask her (not 0)").first("man(0)", "maid(0, 0)")
        .read("takes 1;worth 1;wants noes-1;", 1).first("force(1)").is("told(0, 0, 5)", 1)
        .first("set(0, 0, 1)").is("told(0, 0, 5)", 0).first("set(0, 0, 2)").is("told(0, 0, 5)", 1)
        .first("set(0, 0, 9)").is("told(0, 0, 5)", 1);
  }

  // ---- promise 7

  private static void ofWhom() {
    Scene s = rich(7, "of a MAID 0 .. 4, of a MAN 5, 6: BAD").outside("of(0, %)", 0, 6, BAD);
    for (int what = 0; what < 7; what++) {
      s.outside("of(%, " + what + ")", 0, 2, BAD);
    }
    square(7, "of a MAID 0 .. 4, of a MAN 5, 6").is("of(3, 0)", 3).is("of(3, 1)", 3).is("of(3, 2)", 2)
        .is("of(3, 3)", 3).is("of(3, 4)", NONE).is("of(3, 5)", 3).is("of(3, 6)", NONE)
        .outside("of(%, 0)", 0, 3, BAD).outside("of(%, 5)", 0, 3, BAD);
    Scene maids = scene(7, "of a MAN, and there is none: BAD").first("maid(0, 0)", "maid(0, 0)");
    maids.is("of(1, 4)", NONE).refused("of(0, 5)", BAD).refused("of(1, 6)", BAD);
    Scene men = scene(7, "of a MAID, and there is none: BAD").first("man(0)", "man(0)");
    men.is("of(1, 6)", NONE).refused("of(0, 0)", BAD).refused("of(1, 4)", BAD);
  }

  private static void needsByNumbers() {
    for (int kind = 0; kind < 6; kind++) {
      Scene s = scene(7, "NEEDS of KIND " + kind + ", NUMBER 0 .. 9").first("maid(" + kind + ", 0)");
      for (int number = 0; number < 10; number++) {
        s.first("set(1, 0, " + number + ")").is("of(0, 2)", NEEDS[kind][number]);
      }
    }
  }

  private static void priceZeroAtLeast() {
    int[][] prices = {{0, 1, 2, 3, 4, 5, 6, 7, 8, 9}, {5, 6, 7, 8, 9, 10, 11, 12, 13, 14},
        {0, 2, 4, 6, 8, 10, 12, 14, 16, 18}, {0, 0, 1, 3, 5, 7, 9, 11, 13, 15},
        {0, 0, 0, 0, 0, 0, 0, 0, 0, 0}, {1, 2, 3, 4, 5, 6, 7, 8, 9, 10}};
    for (int kind = 0; kind < 6; kind++) {
      Scene s = scene(7, "PRICE 0 at least, in the end: KIND " + kind).first("maid(" + kind + ", 0)");
      for (int number = 0; number < 10; number++) {
        s.first("set(1, 0, " + number + ")").is("of(0, 3)", prices[kind][number]);
      }
    }
  }

  private static void marriedToWhom() {
    scene(7, "to whom she, he is MARRIED (NONE)").first("man(0)", "man(0)", "maid(1, 0)", "maid(1, 0)")
        .is("of(0, 4)", NONE).is("of(1, 6)", NONE).first("ask(1, 0)").is("of(0, 4)", 1).is("of(1, 4)", NONE)
        .is("of(1, 6)", 0).is("of(0, 6)", NONE).first("part(1)").is("of(0, 4)", NONE).is("of(1, 6)", NONE);
  }
}
