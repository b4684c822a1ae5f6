/** Promises 26 to 30: sheet, cell, copy, likings, taken. */
public final class HostTest {
  private static final int BAD = RefusedMayAsk.BAD;
  private static final int NOTHING = -11, OUTSIDE = -12, OTHER = -13, BELOW = -14;
  private static final int MIN = Integer.MIN_VALUE, MAX = Integer.MAX_VALUE;
  private static final Due DUE = new Due();

  public static void main(String[] args) {
    sheets();
    cells();
    copies();
    copiesOverThemselves();
    likings();
    likingsOutside();
    taken();
    DUE.end();
  }

  private static void sheets() {
    RefusedMayAsk x = new RefusedMayAsk();
    DUE.is("sheet(-1, 0, 1)", x.sheet(-1, 0, 1), BAD);
    DUE.is("sheet(4, 0, 1)", x.sheet(4, 0, 1), BAD);
    DUE.is("sheet(4, -1, 1)", x.sheet(4, -1, 1), BAD);
    DUE.is("sheet(0, -2, 1)", x.sheet(0, -2, 1), BAD);
    DUE.is("sheet(0, 3, 1)", x.sheet(0, 3, 1), BAD);
    DUE.is("sheet(0, 3, -1)", x.sheet(0, 3, -1), BAD);
    DUE.is("sheet(0, 0, 41)", x.sheet(0, 0, 41), BAD);
    DUE.is("sheet(0, 0, MAX)", x.sheet(0, 0, MAX), BAD);
    DUE.is("sheet(0, 0, -1)", x.sheet(0, 0, -1), BELOW);
    DUE.is("sheet(0, 2, MIN)", x.sheet(0, 2, MIN), BELOW);
    DUE.is("still missing", x.cell(0, 0, 0), NOTHING);
    DUE.is("sheet(0, 0, 0)", x.sheet(0, 0, 0), 1);
    DUE.is("empty", x.cell(0, 0, 0), OUTSIDE);
    DUE.is("sheet(0, 2, 40)", x.sheet(0, 2, 40), 1);
    DUE.is("the last item", x.cell(0, 39, 5), 1);
    DUE.is("a refusal changes nothing", x.sheet(0, 0, 41), BAD);
    DUE.is("the last item", x.cell(0, 39, 5), 1);
    DUE.is("sheet(0, -1, 41)", x.sheet(0, -1, 41), 1);
    DUE.is("missing", x.cell(0, 0, 0), NOTHING);
    DUE.is("sheet(0, -1, -1)", x.sheet(0, -1, -1), 1);
    x.man(0);
    x.maid(0, 0);
    x.sheet(1, 2, 1);
    x.cell(1, 0, 7);
    DUE.is("no row", x.row(1), 0);
    x.sheet(1, 2, 1);
    x.man(0);
    x.sheet(1, 2, 2);
    DUE.is("all 0", x.row(1), 0);
    x.cell(1, 1, -1);
    DUE.is("all 0 but that", x.row(1), 3);
  }

  private static void cells() {
    RefusedMayAsk x = new RefusedMayAsk();
    DUE.is("cell(-1, 0, 0)", x.cell(-1, 0, 0), BAD);
    DUE.is("cell(4, 0, 0)", x.cell(4, 0, 0), BAD);
    DUE.is("cell(3, 99, 0)", x.cell(3, 99, 0), NOTHING);
    x.sheet(3, 1, 3);
    DUE.is("cell(3, -1, 0)", x.cell(3, -1, 0), OUTSIDE);
    DUE.is("cell(3, 3, 0)", x.cell(3, 3, 0), OUTSIDE);
    DUE.is("cell(3, MAX, 0)", x.cell(3, MAX, 0), OUTSIDE);
    DUE.is("cell(3, MIN, 0)", x.cell(3, MIN, 0), OUTSIDE);
    DUE.is("cell(3, 2, MAX)", x.cell(3, 2, MAX), 1);
    x.man(0);
    x.maid(0, 0);
    // each row: sort, number that is put in, whether it is -1 then
    int[][] rows = {{0, 255, 3}, {0, 0xffff, 3}, {0, -1, 3}, {0, 0x1ff, 3}, {0, 127, 0},
        {0, 128, 0}, {1, 255, 0}, {1, 0xffff, 3}, {1, 0x1ffff, 3}, {2, 0xffff, 0}, {2, -1, 3}};
    x.likes(0, 0, 1, 0);
    for (int[] r : rows) {
      x.sheet(0, r[0], 1);
      x.cell(0, 0, r[1]);
      DUE.is("sort " + r[0] + ", " + r[1], x.row(0), r[2]);
    }
  }

  private static void copies() {
    RefusedMayAsk x = new RefusedMayAsk();
    DUE.is("copy(4, ..)", x.copy(4, 0, 0, 0, 0), BAD);
    DUE.is("copy(.., 4)", x.copy(0, 0, 4, 0, 0), BAD);
    DUE.is("copy(-1, ..)", x.copy(-1, 0, 0, 0, 0), BAD);
    DUE.is("copy(.., -1)", x.copy(0, 0, -1, 0, 0), BAD);
    x.sheet(0, 0, 5);
    DUE.is("to a missing one", x.copy(0, 0, 1, 0, 99), NOTHING);
    DUE.is("from a missing one", x.copy(1, 0, 0, 0, 99), NOTHING);
    x.sheet(1, 1, 5);
    DUE.is("unlike sorts", x.copy(0, 0, 1, 0, 99), OTHER);
    x.sheet(2, 0, 3);
    int[][] outside = {{0, 0, -1}, {0, 0, 4}, {3, 0, 3}, {0, 1, 3}, {-1, 0, 1}, {0, -1, 1},
        {6, 0, 0}, {0, 4, 0}, {MAX, 0, 1}, {0, MAX, 1}, {1, 1, MAX}, {0, 0, MIN}, {MIN, 0, 1},
        {0, MIN, 1}, {MAX, 0, MAX}, {-1, 0, 0}};
    for (int[] o : outside) {
      DUE.is("outside " + java.util.Arrays.toString(o), x.copy(0, o[0], 2, o[1], o[2]), OUTSIDE);
    }
    DUE.is("none", x.copy(0, 5, 2, 3, 0), 0);
    DUE.is("three", x.copy(0, 2, 2, 0, 3), 3);
    x.man(0);
    x.man(0);
    x.man(0);
    x.maid(1, 0);
    x.maid(1, 0);
    x.maid(1, 0);
    Due.sheet(x, 0, 0, 9, 9, 2, 0, 1);
    DUE.is("all 0", x.row(2), 0);
    x.copy(0, 2, 2, 0, 3);
    DUE.is("a row of three", x.row(2), 3);
    DUE.is("what was there stays", x.copy(2, 0, 0, 0, 3), 3);
    x.sheet(3, 0, 3);
    x.copy(0, 2, 3, 0, 3);
    DUE.is("1 0 1", x.row(3), 0);
  }

  private static void copiesOverThemselves() {
    RefusedMayAsk x = new RefusedMayAsk();
    for (int i = 0; i < 4; i++) {
      x.man(0);
      x.maid(1, 0);
    }
    Due.sheet(x, 0, 2, 0, 1, 2, 3);
    DUE.is("on by one", x.copy(0, 0, 0, 1, 3), 3);
    x.cell(0, 0, 3);
    DUE.is("3 0 1 2", x.row(0), 3);
    DUE.is("back by one", x.copy(0, 1, 0, 0, 3), 3);
    x.cell(0, 3, 3);
    DUE.is("0 1 2 3", x.row(0), 3);
  }

  private static RefusedMayAsk pair() {
    RefusedMayAsk x = new RefusedMayAsk();
    x.man(0);
    x.man(0);
    x.maid(0, 0);
    return x;
  }

  private static void likings() {
    RefusedMayAsk x = pair();
    DUE.is("likings(-1, ..)", x.likings(-1, 0, 0, 0), BAD);
    DUE.is("likings(4, ..)", x.likings(4, 0, 0, 0), BAD);
    DUE.is("sort -1", x.likings(0, -1, 0, 0), BAD);
    DUE.is("sort 3", x.likings(0, 3, 0, 0), BAD);
    DUE.is("n -1", x.likings(0, 0, 0, -1), BAD);
    DUE.is("n 11", x.likings(0, 0, 0, 11), BAD);
    DUE.is("missing", x.likings(0, 0, 99, 10), NOTHING);
    for (int sort = 0; sort < 3; sort++) {
      Due.sheet(x, 0, sort, 7, 0, 0, 0, sort + 1, 1, 0, 1, sort + 5, 2, 0, 0, 5, 1, 0, 0, 100);
      DUE.is("of another sort", x.likings(0, (sort + 1) % 3, 99, 4), OTHER);
      DUE.is("two of four", x.likings(0, sort, 1, 4), 2);
      DUE.is("HE likes HER", x.told(0, 0, 0), sort + 1);
      DUE.is("SHE likes HIM", x.told(1, 0, 1), sort + 5);
      DUE.is("left out", x.told(1, 0, 0), 50);
      DUE.is("none of none", x.likings(0, sort, 1, 0), 0);
    }
    x.sheet(1, 0, 40);
    DUE.is("ten", x.likings(1, 0, 0, 10), 10);
    DUE.is("HE likes HER", x.told(0, 0, 0), 0);
    Due.sheet(x, 1, 0, 0, 0, 0, 200);
    DUE.is("200 is a byte below 0", x.likings(1, 0, 0, 1), 0);
  }

  private static void likingsOutside() {
    RefusedMayAsk x = pair();
    Due.sheet(x, 0, 2, 0, 0, 0, 21, 1, 0, 1, 22, 1, 0, 0);
    DUE.is("the third ends too early", x.likings(0, 2, 0, 3), OUTSIDE);
    DUE.is("what stood ahead became so", x.told(0, 0, 0), 21);
    DUE.is("what stood ahead became so", x.told(1, 0, 1), 22);
    DUE.is("and no more", x.told(1, 0, 0), 50);
    DUE.is("from -1", x.likings(0, 2, -1, 1), OUTSIDE);
    DUE.is("from 8", x.likings(0, 2, 8, 1), OUTSIDE);
    DUE.is("from MAX", x.likings(0, 2, MAX, 10), OUTSIDE);
    DUE.is("from MIN", x.likings(0, 2, MIN, 10), OUTSIDE);
    DUE.is("none from MAX", x.likings(0, 2, MAX, 0), 0);
  }

  private static void taken() {
    int[][] number = {{1, 0, 0, 0, 0, 0}, {1, 1, 0, 0, 0, 0}, {1, 0, 1, 0, 0, 0},
        {1, 0, 1, 1, 0, 0}, {1, 1, 0, 0, 1, 0}, {1, 0, 0, 0, 0, 1}};
    for (int kind = 0; kind < 6; kind++) {
      RefusedMayAsk x = new RefusedMayAsk();
      x.maid(kind, 3 + kind);
      for (int k = 0; k < 6; k++) {
        DUE.is("taken, " + kind + " for " + k, x.taken(0, k),
            number[kind][k] == 1 ? 3 + kind : OTHER);
      }
      DUE.is("k -1", x.taken(0, -1), BAD);
      DUE.is("k 6", x.taken(0, 6), BAD);
      DUE.is("k 6, no maid", x.taken(1, 6), BAD);
      DUE.is("no maid", x.taken(1, 0), NOTHING);
      DUE.is("no maid", x.taken(-1, 0), NOTHING);
    }
  }
}
