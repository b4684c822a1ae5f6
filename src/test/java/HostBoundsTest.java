/** The bounds of promises 26 to 30, a scene for each sentence that names one. */
public final class HostBoundsTest {
  private static final int BAD = RefusedMayAsk.BAD;
  private static final int NOTHING = -11, OUTSIDE = -12, OTHER = -13, BELOW = -14;
  private static final int MIN = Integer.MIN_VALUE, MAX = Integer.MAX_VALUE;
  private static final Due DUE = new Due();

  public static void main(String[] args) {
    sheets0To3();
    sortsOfSheets();
    sizes0To40();
    sheetRefusedInOrder();
    sheetsMissing();
    sheetsAllZero();
    cellRefused();
    cellPlaces();
    lowestBits();
    copyRefused();
    copyPlaces();
    copyEmptyAndFull();
    copyAsTheyWere();
    likingsRefused();
    likings0To10();
    likingsLeftOut();
    likingsOutside();
    likingsOfSorts();
    takenRefused();
    takenForKinds();
    takenAtTheBounds();
    DUE.end();
  }

  private static Scene scene(int promise, String sentence) {
    return new Scene(DUE, promise, sentence);
  }

  private static Scene rich(int promise, String sentence) {
    return Scene.rich(DUE, promise, sentence);
  }

  private static Scene pair(int promise, String sentence) {
    return scene(promise, sentence).first("man(0)", "maid(1, 0)");
  }

  // ---- promise 26

  private static void sheets0To3() {
    Scene s = scene(26, "SHEETS 0 .. 3: BAD: no such SHEET").outside("sheet(%, 0, 1)", 0, 3, BAD)
        .outside("sheet(%, -1, 1)", 0, 3, BAD);
    for (int sheet = 0; sheet < 4; sheet++) {
      s.is("sheet(" + sheet + ", 0, " + sheet + ")", 1);
    }
    for (int sheet = 0; sheet < 4; sheet++) {
      s.refused("cell(" + sheet + ", " + sheet + ", 1)", OUTSIDE);
      if (sheet > 0) {
        s.is("cell(" + sheet + ", " + (sheet - 1) + ", 1)", 1);
      }
    }
    rich(26, "SHEETS 0 .. 3: BAD: no such SHEET").outside("sheet(%, 0, 1)", 0, 3, BAD)
        .outside("sheet(%, -1, 0)", 0, 3, BAD);
  }

  private static void sortsOfSheets() {
    for (int sort = 0; sort < 3; sort++) {
      scene(26, "of sort 0 bytes, 1 shorts, 2 ints").is("sheet(0, " + sort + ", 4)", 1)
          .still("likings(0, " + sort + ", 0, 0)", 0).refused("likings(0, " + (sort + 1) % 3 + ", 0, 0)", OTHER)
          .refused("likings(0, " + (sort + 2) % 3 + ", 0, 0)", OTHER);
    }
    scene(26, "BAD: no such sort").outside("sheet(0, %, 1)", -1, 2, BAD).refused("cell(0, 0, 0)", NOTHING);
    rich(26, "BAD: no such sort").outside("sheet(0, %, 1)", -1, 2, BAD);
  }

  private static void sizes0To40() {
    for (int sort = 0; sort < 3; sort++) {
      scene(26, "a row of n: BAD: n above 40; -14").is("sheet(0, " + sort + ", 0)", 1).refused("cell(0, 0, 0)", OUTSIDE)
          .is("sheet(0, " + sort + ", 1)", 1).is("cell(0, 0, 5)", 1).refused("cell(0, 1, 5)", OUTSIDE)
          .is("sheet(0, " + sort + ", 40)", 1).is("cell(0, 39, 5)", 1).refused("cell(0, 40, 5)", OUTSIDE)
          .refused("sheet(0, " + sort + ", 41)", BAD).refused("sheet(0, " + sort + ", MAX)", BAD)
          .refused("sheet(0, " + sort + ", -1)", BELOW).refused("sheet(0, " + sort + ", MIN)", BELOW)
          .is("cell(0, 39, 5)", 1);
    }
    rich(26, "BAD: n above 40; -14").refused("sheet(0, 0, 41)", BAD).refused("sheet(0, 0, -1)", BELOW)
        .refused("sheet(3, 2, 41)", BAD).refused("sheet(3, 2, -1)", BELOW).refused("cell(3, 0, 0)", NOTHING);
  }

  private static void sheetRefusedInOrder() {
    rich(26, "BAD: no such SHEET, sort; n above 40; -14: the first that is named").refused("sheet(4, 0, -1)", BAD)
        .refused("sheet(-1, 3, -1)", BAD).refused("sheet(0, 3, -1)", BAD).refused("sheet(0, -2, -1)", BAD)
        .refused("sheet(0, 3, 41)", BAD).refused("sheet(4, -1, -1)", BAD);
  }

  private static void sheetsMissing() {
    Scene s = pair(26, "or missing (sort -1: n does not matter)");
    for (String n : new String[] {"0", "-1", "40", "41", "MIN", "MAX"}) {
      s.lay(1, 1, -1).still("row(1)", 2).is("sheet(1, -1, " + n + ")", 1).refused("row(1)", NOTHING);
      s.is("sheet(1, -1, " + n + ")", 1).refused("cell(1, 0, 0)", NOTHING);
    }
    s.is("sheet(1, 1, 1)", 1).still("row(1)", 3);
  }

  private static void sheetsAllZero() {
    scene(26, "a row of n of a sort, all 0")
        .first("man(0)", "man(0)", "man(0)", "maid(1, 0)", "maid(1, 0)", "maid(1, 0)")
        .lay(0, 2, 2, 1, 0).still("row(0)", 3).is("sheet(0, 2, 3)", 1).still("row(0)", 0)
        .first("cell(0, 0, -1)", "cell(0, 1, -1)").still("row(0)", 2).lay(0, 0, 0, 7, 7)
        .is("sheet(0, 0, 1)", 1).is("sheet(0, 0, 3)", 1).first("cell(0, 1, -1)", "cell(0, 2, -1)").still("row(0)", 2)
        .first("cell(0, 0, -1)", "cell(0, 1, 0)").still("row(0)", 2);
    Scene s = pair(26, "a row of n of a sort, all 0: each of 40").first("sheet(0, 0, 40)");
    for (int i = 0; i < 40; i++) {
      s.first("cell(0, " + i + ", 9)");
    }
    s.is("sheet(0, 0, 40)", 1).is("likings(0, 0, 0, 10)", 10).is("told(0, 0, 0)", 0);
  }

  // ---- promise 27

  private static void cellRefused() {
    scene(27, "BAD: no such SHEET; -11; -12").outside("cell(%, 0, 1)", 0, 3, BAD).outside("cell(%, -1, 1)", 0, 3, BAD)
        .refused("cell(3, 0, 1)", NOTHING).refused("cell(3, -1, 1)", NOTHING).first("sheet(3, 0, 2)")
        .outside("cell(3, %, 1)", 0, 1, OUTSIDE).is("cell(3, 0, 1)", 1).is("cell(3, 1, 1)", 1);
    rich(27, "BAD: no such SHEET; -11; -12").outside("cell(%, 0, 1)", 0, 3, BAD).refused("cell(3, 0, 1)", NOTHING)
        .outside("cell(0, %, 1)", 0, 3, OUTSIDE).outside("cell(1, %, 1)", 0, 5, OUTSIDE)
        .outside("cell(2, %, 1)", 0, 7, OUTSIDE);
  }

  private static void cellPlaces() {
    scene(27, "-12: an empty SHEET").first("sheet(0, 0, 0)").refused("cell(0, 0, 1)", OUTSIDE)
        .refused("cell(0, -1, 1)", OUTSIDE);
    scene(27, "-12: a full SHEET").first("sheet(0, 2, 40)").outside("cell(0, %, 1)", 0, 39, OUTSIDE)
        .is("cell(0, 39, 1)", 1).is("cell(0, 0, 1)", 1);
    scene(27, "Item i of a SHEET becomes v").first("man(0)", "man(0)", "man(0)")
        .first("maid(1, 0)", "maid(1, 0)", "maid(1, 0)").first("sheet(0, 0, 3)").is("cell(0, 0, 2)", 1)
        .is("cell(0, 2, 1)", 1).still("row(0)", 3).is("cell(0, 1, 1)", 1).still("row(0)", 0);
  }

  /** What he likes her then, if an item is put there; -1: it is no liking. */
  private static void item(int sort, int put, int liked) {
    String words = "of bytes, shorts its lowest 8, 16 bits";
    pair(27, words + ", " + put).lay(0, sort, 0, 0, 0, put).is("likings(0, " + sort + ", 0, 1)", liked < 0 ? 0 : 1)
        .is("told(0, 0, 0)", liked < 0 ? 50 : liked);
  }

  private static void lowestBits() {
    int[][] rows = {{0, 99, 99}, {0, 256, 0}, {0, 257, 1}, {0, 255, -1}, {0, -1, -1}, {0, -256, 0}, {0, -157, 99},
        {0, 127, -1}, {0, 128, -1}, {0, 65536, 0}, {0, MIN, 0}, {0, MAX, -1}, {0, 355, 99}, {0, 0x7fffff05, 5},
        {1, 99, 99}, {1, 256, -1}, {1, 65535, -1}, {1, 65536, 0}, {1, 65537, 1}, {1, -65536, 0}, {1, -65437, 99},
        {1, 32768, -1}, {1, MIN, 0}, {1, MAX, -1}, {1, 0x7fff0005, 5}, {2, 99, 99}, {2, 256, -1}, {2, 65536, -1},
        {2, MIN, -1}, {2, MAX, -1}, {2, 0, 0}};
    for (int[] r : rows) {
      item(r[0], r[1], r[2]);
    }
    int[][] none = {{0, -1, 3}, {0, 255, 3}, {0, 65535, 3}, {0, MAX, 3}, {0, 254, 0}, {1, 255, 0}, {1, 65535, 3},
        {1, -1, 3}, {1, MAX, 3}, {2, 255, 0}, {2, 65535, 0}, {2, -1, 3}, {2, MAX, 0}};
    for (int[] r : none) {
      scene(27, "bytes, shorts with their sign").first("man(0)").lay(0, r[0], r[1]).still("row(0)", r[2]);
    }
  }

  // ---- promise 28

  private static void copyRefused() {
    scene(28, "BAD: no such SHEET; -11; -13; -12").outside("copy(%, 0, 0, 0, 0)", 0, 3, BAD)
        .outside("copy(0, 0, %, 0, 0)", 0, 3, BAD).refused("copy(0, 0, 0, 0, 0)", NOTHING)
        .refused("copy(0, -1, 1, 0, -1)", NOTHING).first("sheet(0, 0, 2)").refused("copy(0, 0, 3, 0, -1)", NOTHING)
        .refused("copy(3, 9, 0, 0, 0)", NOTHING).outside("copy(0, 9, %, 0, 0)", 0, 3, BAD)
        .outside("copy(%, 9, 0, 0, 0)", 0, 3, BAD).first("sheet(3, 1, 2)").refused("copy(0, 0, 3, 0, 0)", OTHER)
        .refused("copy(3, 0, 0, 0, 1)", OTHER).refused("copy(0, -1, 3, 0, -1)", OTHER)
        .refused("copy(0, 9, 3, 9, 9)", OTHER)
        .first("sheet(3, 2, 2)").refused("copy(0, 0, 3, 0, 0)", OTHER).first("sheet(3, 0, 2)")
        .still("copy(0, 0, 3, 0, 0)", 0);
    rich(28, "BAD: no such SHEET; -11; -13; -12").outside("copy(%, 0, 0, 0, 1)", 0, 3, BAD)
        .outside("copy(0, 0, %, 0, 1)", 0, 3, BAD).refused("copy(0, 0, 3, 0, 1)", NOTHING)
        .refused("copy(3, 0, 0, 0, 1)", NOTHING).refused("copy(0, 0, 1, 0, 1)", OTHER)
        .refused("copy(1, 0, 2, 0, 1)", OTHER).refused("copy(2, 0, 0, 0, 1)", OTHER);
  }

  private static void copyPlaces() {
    Scene s = rich(28, "-12 (also with n below 0)").lay(3, 2, 1, 2, 3);
    s.outside("copy(2, %, 3, 0, 1)", 0, 7, OUTSIDE).outside("copy(2, 0, 3, %, 1)", 0, 2, OUTSIDE);
    s.outside("copy(2, 0, 3, 0, %)", 0, 3, OUTSIDE).outside("copy(2, %, 3, 0, 0)", 0, 8, OUTSIDE);
    s.outside("copy(2, 0, 3, %, 0)", 0, 3, OUTSIDE).outside("copy(3, 0, 2, 0, %)", 0, 3, OUTSIDE);
    s.outside("copy(2, %, 3, 0, 3)", 0, 5, OUTSIDE).outside("copy(2, 5, 3, %, 3)", 0, 0, OUTSIDE);
    s.refused("copy(2, MAX, 3, 0, MAX)", OUTSIDE).refused("copy(2, 0, 3, MAX, MAX)", OUTSIDE);
    s.refused("copy(2, MIN, 3, MIN, MIN)", OUTSIDE).refused("copy(2, 1, 3, 1, MAX)", OUTSIDE);
    s.refused("copy(2, -1, 3, 0, 2)", OUTSIDE).refused("copy(2, 2, 3, 2, -1)", OUTSIDE);
    s.still("copy(2, 8, 3, 3, 0)", 0).is("copy(2, 5, 3, 0, 3)", 3).is("copy(2, 7, 3, 2, 1)", 1);
  }

  private static void copyEmptyAndFull() {
    scene(28, "n numbers: of an empty SHEET none").first("sheet(0, 0, 0)", "sheet(1, 0, 0)")
        .still("copy(0, 0, 1, 0, 0)", 0).still("copy(0, 0, 0, 0, 0)", 0).refused("copy(0, 0, 1, 0, 1)", OUTSIDE)
        .refused("copy(0, 1, 1, 0, 0)", OUTSIDE).refused("copy(0, 0, 1, 1, 0)", OUTSIDE)
        .refused("copy(0, 0, 1, 0, -1)", OUTSIDE);
    Scene s = pair(28, "n numbers: of a full SHEET all 40").first("sheet(0, 1, 40)", "sheet(1, 1, 40)");
    for (int i = 3; i < 40; i += 4) {
      s.first("cell(0, " + i + ", " + i + ")");
    }
    s.is("copy(0, 0, 1, 0, 40)", 40).refused("copy(0, 0, 1, 0, 41)", OUTSIDE).refused("copy(0, 1, 1, 0, 40)", OUTSIDE);
    for (int k = 0; k < 10; k++) {
      s.is("likings(1, 1, " + 4 * k + ", 1)", 1).is("told(0, 0, 0)", 4 * k + 3);
    }
    s.refused("copy(0, 0, 1, 1, 40)", OUTSIDE).still("copy(0, 40, 1, 40, 0)", 0)
        .refused("copy(0, 41, 1, 0, 0)", OUTSIDE);
  }

  private static void copyAsTheyWere() {
    for (int sort = 0; sort < 3; sort++) {
      scene(28, "come to another one's item j on (as they were)").first("man(0)", "man(0)", "man(0)", "man(0)")
          .first("maid(1, 0)", "maid(1, 0)", "maid(1, 0)", "maid(1, 0)").lay(0, sort, 0, 1, 2, 3)
          .is("copy(0, 0, 0, 1, 3)", 3).first("cell(0, 0, 3)").still("row(0)", 3)
          .is("copy(0, 1, 0, 0, 3)", 3).first("cell(0, 3, 3)").still("row(0)", 3).is("copy(0, 0, 0, 0, 4)", 4)
          .still("row(0)", 3).lay(1, sort, -1, -1, -1, -1).is("copy(0, 3, 1, 0, 1)", 1).still("row(1)", 2)
          .is("copy(0, 0, 1, 3, 1)", 1).is("copy(0, 1, 1, 1, 2)", 2).still("row(1)", 3).still("row(0)", 3);
    }
  }

  // ---- promise 29

  private static void likingsRefused() {
    Scene s = pair(29, "BAD: no such SHEET, sort, n; -13; -11; -12").outside("likings(%, 0, 0, 0)", 0, 3, BAD)
        .outside("likings(0, %, 0, 0)", 0, 2, BAD).outside("likings(0, 0, 0, %)", 0, 10, BAD)
        .refused("likings(3, 2, -1, 10)", NOTHING).refused("likings(3, 0, 0, 0)", NOTHING);
    s.first("sheet(3, 0, 3)").outside("likings(3, 1, -1, %)", 0, 10, BAD).outside("likings(3, %, -1, 1)", 0, 2, BAD);
    s.refused("likings(3, 1, -1, 1)", OTHER).refused("likings(3, 2, 0, 0)", OTHER)
        .refused("likings(3, 0, -1, 1)", OUTSIDE);
    rich(29, "BAD: no such SHEET, sort, n; -13; -11; -12").outside("likings(%, 2, 0, 1)", 0, 3, BAD)
        .outside("likings(2, %, 0, 1)", 0, 2, BAD).outside("likings(2, 2, 0, %)", 0, 10, BAD)
        .refused("likings(2, 0, 0, 1)", OTHER).refused("likings(2, 1, 0, 1)", OTHER)
        .refused("likings(3, 2, 0, 1)", NOTHING).refused("likings(2, 2, 5, 1)", OUTSIDE)
        .refused("likings(2, 2, -1, 1)", OUTSIDE).is("likings(2, 2, 0, 2)", 2).is("told(0, 0, 0)", 77)
        .is("told(1, 1, 1)", 88);
  }

  private static void likings0To10() {
    Scene s = pair(29, "n of them (0 .. 10): how many became so").first("sheet(0, 0, 40)");
    for (int k = 0; k < 10; k++) {
      s.first("cell(0, " + (4 * k + 3) + ", " + (k + 1) + ")");
    }
    s.still("likings(0, 0, 0, 0)", 0).is("told(0, 0, 0)", 50);
    for (int n = 1; n <= 10; n++) {
      s.is("likings(0, 0, 0, " + n + ")", n).is("told(0, 0, 0)", n);
    }
    s.refused("likings(0, 0, 0, 11)", BAD).is("likings(0, 0, 36, 1)", 1).is("told(0, 0, 0)", 10);
    pair(29, "n 0: none of an empty SHEET").lay(0, 0).still("likings(0, 0, 0, 0)", 0)
        .refused("likings(0, 0, 0, 1)", OUTSIDE);
  }

  private static void likingsLeftOut() {
    Scene s = pair(29, "how many became so (others are left out)");
    int[][] out = {{1, 0, 0, 5}, {-1, 0, 0, 5}, {0, 1, 0, 5}, {0, -1, 0, 5}, {0, 0, 2, 5}, {0, 0, -1, 5},
        {0, 0, 0, 100}, {0, 0, 0, -1}};
    for (int[] o : out) {
      s.lay(0, 2, o).still("likings(0, 2, 0, 1)", 0);
      s.lay(1, 2, o[0], o[1], o[2], o[3], 0, 0, 1, 6).is("likings(1, 2, 0, 2)", 1).is("told(0, 0, 1)", 6);
      s.first("likes(0, 0, 1, 50)").is("told(0, 0, 0)", 50);
    }
    pair(29, "(as of likes()): 0 and 99").lay(0, 0, 0, 0, 0, 99, 0, 0, 1, 0).is("likings(0, 0, 0, 2)", 2)
        .is("told(0, 0, 0)", 99).is("told(0, 0, 1)", 0);
    scene(29, "nobody is there: all are left out").lay(0, 0, 0, 0, 0, 5).still("likings(0, 0, 0, 1)", 0);
  }

  private static void likingsOutside() {
    for (int missing = 1; missing <= 3; missing++) {
      int size = 8 + 4 - missing;
      Scene s = pair(29, "-12: what stood ahead became so").first("man(0)").lay(0, 1, 0, 0, 0, 21, 1, 0, 1, 22);
      s.first("sheet(1, 1, " + size + ")").is("copy(0, 0, 1, 0, 8)", 8).is("likings(1, 1, 0, 3)", OUTSIDE);
      s.is("told(0, 0, 0)", 21).is("told(1, 0, 1)", 22).is("told(1, 0, 0)", 50).is("told(0, 0, 1)", 50);
      s.is("likings(1, 1, 0, 10)", OUTSIDE);
    }
    Scene first = pair(29, "-12: nothing stood ahead").lay(0, 2, 0, 0, 0, 21, 0, 0, 0);
    first.outside("likings(0, 2, %, 1)", 0, 3, OUTSIDE).is("likings(0, 2, 3, 1)", 0).is("likings(0, 2, 0, 1)", 1);
    Scene any = pair(29, "-12: from one on").lay(0, 2, 0, 0, 0, 21);
    any.refused("likings(0, 2, MAX, 10)", OUTSIDE).refused("likings(0, 2, MIN, 10)", OUTSIDE);
    any.refused("likings(0, 2, -4, 2)", OUTSIDE).refused("likings(0, 2, 1, 1)", OUTSIDE)
        .refused("likings(0, 2, 4, 1)", OUTSIDE);
    any.still("likings(0, 2, MAX, 0)", 0).still("likings(0, 2, -1, 0)", 0).still("likings(0, 2, 5, 0)", 0);
  }

  private static void likingsOfSorts() {
    for (int sort = 0; sort < 3; sort++) {
      pair(29, "a SHEET that is taken for one of a sort").lay(0, sort, 9, 0, 0, 1, 31)
          .is("likings(0, " + sort + ", 1, 1)", 1)
          .is("told(0, 0, 1)", 31).refused("likings(0, " + (sort + 1) % 3 + ", 1, 1)", OTHER)
          .refused("likings(0, " + (sort + 2) % 3 + ", 1, 1)", OTHER).outside("likings(0, %, 1, 1)", 0, 2, BAD);
    }
  }

  // ---- promise 30

  private static void takenRefused() {
    scene(30, "BAD: k; -11: no such MAID; -13").first("man(0)").outside("taken(0, %)", 0, 5, BAD)
        .refused("taken(0, 0)", NOTHING).first("maid(2, 7)").outside("taken(0, %)", 0, 5, BAD)
        .outside("taken(9, %)", 0, 5, BAD).outside("taken(%, 0)", 0, 0, NOTHING).outside("taken(%, 1)", 0, 0, NOTHING)
        .refused("taken(0, 1)", OTHER).still("taken(0, 0)", 7);
    rich(30, "BAD: k; -11: no such MAID; -13").outside("taken(0, %)", 0, 5, BAD).outside("taken(%, 0)", 0, 2, NOTHING)
        .refused("taken(0, 2)", OTHER).still("taken(2, 1)", 9).still("taken(2, 4)", 9).still("taken(0, 1)", 2);
  }

  /** Each KIND: the KINDS that it may be taken for. */
  private static void takenForKinds() {
    String[] taken = {"0", "01", "02", "023", "014", "05"};
    for (int kind = 0; kind < 6; kind++) {
      Scene s = scene(30, "KIND k (0 .. 5), or one under that one (also by others between)")
          .first("maid(" + kind + ", 8)");
      for (int k = 0; k <= 5; k++) {
        s.still("taken(0, " + k + ")", taken[kind].indexOf('0' + k) >= 0 ? 8 : OTHER);
      }
    }
  }

  private static void takenAtTheBounds() {
    scene(30, "her NUMBER").first("maid(0, 0)", "maid(0, 9)", "maid(0, 1)", "maid(5, 4)").still("taken(0, 0)", 0)
        .still("taken(1, 0)", 9).still("taken(3, 5)", 4).outside("taken(%, 0)", 0, 3, NOTHING)
        .first("set(1, 3, 9)").still("taken(3, 0)", 9);
  }
}
