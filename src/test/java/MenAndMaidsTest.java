/** Promises 1 to 7: a new object, man, maid, likes, set, told, of. */
public final class MenAndMaidsTest {
  private static final int BAD = RefusedMayAsk.BAD, FULL = RefusedMayAsk.FULL;
  private static final int NONE = RefusedMayAsk.NONE;
  private static final Due DUE = new Due();

  public static void main(String[] args) {
    newObject();
    men();
    maids();
    likings();
    settings();
    needsAndPrices();
    whomSheRefuses();
    mayAsk();
    ruleAtFirst();
    DUE.end();
  }

  private static void newObject() {
    RefusedMayAsk x = new RefusedMayAsk();
    int[] counts = {0, 0, 0, 0, 1, 0, 0};
    for (int what = 0; what < counts.length; what++) {
      DUE.is("new: count(" + what + ")", x.count(what), counts[what]);
    }
    DUE.is("new: told(0, 0, 0)", x.told(0, 0, 0), BAD);
    DUE.is("new: row of a missing sheet", x.row(3), -11);
    DUE.is("new: back()", x.back(), RefusedMayAsk.STATE);
  }

  private static void men() {
    RefusedMayAsk x = new RefusedMayAsk();
    DUE.is("man(-1)", x.man(-1), BAD);
    DUE.is("man(10)", x.man(10), BAD);
    int[] noes = {0, 9, 4, 1};
    for (int man = 0; man < 4; man++) {
      DUE.is("man", x.man(noes[man]), man);
      DUE.is("count(0)", x.count(0), man + 1);
    }
    for (int man = 0; man < 4; man++) {
      DUE.is("of(man, 5)", x.of(man, 5), noes[man]);
      DUE.is("of(man, 6)", x.of(man, 6), NONE);
    }
    DUE.is("a fifth man", x.man(0), FULL);
    DUE.is("a fifth man of 10", x.man(10), BAD);
    DUE.is("count(0)", x.count(0), 4);
  }

  private static void maids() {
    RefusedMayAsk x = new RefusedMayAsk();
    DUE.is("maid(-1, 0)", x.maid(-1, 0), BAD);
    DUE.is("maid(6, 0)", x.maid(6, 0), BAD);
    DUE.is("maid(0, -1)", x.maid(0, -1), BAD);
    DUE.is("maid(0, 10)", x.maid(0, 10), BAD);
    for (int maid = 0; maid < 4; maid++) {
      DUE.is("maid", x.maid(5 - maid, 9 - maid), maid);
    }
    for (int maid = 0; maid < 4; maid++) {
      DUE.is("of(maid, 0)", x.of(maid, 0), 5 - maid);
      DUE.is("of(maid, 1)", x.of(maid, 1), 9 - maid);
      DUE.is("of(maid, 4)", x.of(maid, 4), NONE);
    }
    DUE.is("a fifth maid", x.maid(0, 0), FULL);
    DUE.is("a fifth maid of 10", x.maid(0, 10), BAD);
    DUE.is("of(4, 0)", x.of(4, 0), BAD);
    DUE.is("of(-1, 0)", x.of(-1, 0), BAD);
    DUE.is("of(0, 5), no man", x.of(0, 5), BAD);
    DUE.is("of(0, -1)", x.of(0, -1), BAD);
    DUE.is("of(0, 7)", x.of(0, 7), BAD);
  }

  private static void likings() {
    RefusedMayAsk x = new RefusedMayAsk();
    x.man(0);
    x.man(0);
    x.maid(0, 0);
    x.maid(0, 0);
    x.maid(0, 0);
    int v = 0;
    for (int man = 0; man < 2; man++) {
      for (int maid = 0; maid < 3; maid++) {
        for (int what = 0; what < 2; what++) {
          DUE.is("likes at first", x.likes(man, maid, what, v++), 50);
        }
      }
    }
    v = 0;
    for (int man = 0; man < 2; man++) {
      for (int maid = 0; maid < 3; maid++) {
        DUE.is("told 0", x.told(man, maid, 0), v++);
        DUE.is("told 1", x.told(man, maid, 1), v++);
      }
    }
    DUE.is("likes 99", x.likes(0, 0, 0, 99), 0);
    int[][] bad = {{2, 0, 0, 0}, {-1, 0, 0, 0}, {0, 3, 0, 0}, {0, -1, 0, 0}, {0, 0, -1, 0},
        {0, 0, 2, 0}, {0, 0, 0, -1}, {0, 0, 0, 100}};
    for (int[] b : bad) {
      DUE.is("bad likes", x.likes(b[0], b[1], b[2], b[3]), BAD);
    }
    DUE.is("told behind bad ones", x.told(0, 0, 0), 99);
    DUE.is("told(2, 0, 0)", x.told(2, 0, 0), BAD);
    DUE.is("told(0, 3, 0)", x.told(0, 3, 0), BAD);
    DUE.is("told(-1, 0, 0)", x.told(-1, 0, 0), BAD);
    DUE.is("told(0, -1, 0)", x.told(0, -1, 0), BAD);
    DUE.is("told(0, 0, -1)", x.told(0, 0, -1), BAD);
    DUE.is("told(0, 0, 6)", x.told(0, 0, 6), BAD);
  }

  private static void settings() {
    RefusedMayAsk x = new RefusedMayAsk();
    x.man(3);
    x.man(4);
    x.maid(0, 5);
    DUE.is("set(0, 1, 9)", x.set(0, 1, 9), 4);
    DUE.is("set(0, 1, 0)", x.set(0, 1, 0), 9);
    DUE.is("of(0, 5)", x.of(0, 5), 3);
    DUE.is("set(1, 0, 9)", x.set(1, 0, 9), 5);
    DUE.is("of(0, 1)", x.of(0, 1), 9);
    DUE.is("set(2, 77, 99)", x.set(2, 77, 99), 0);
    DUE.is("set(2, -77, 0)", x.set(2, -77, 0), 99);
    int[][] bad = {{0, 2, 0}, {0, -1, 0}, {0, 0, -1}, {0, 0, 10}, {1, 1, 0}, {1, -1, 0},
        {1, 0, -1}, {1, 0, 10}, {2, 0, -1}, {2, 0, 100}, {3, 0, 0}, {-1, 0, 0}};
    for (int[] b : bad) {
      DUE.is("bad set", x.set(b[0], b[1], b[2]), BAD);
    }
    DUE.is("of(0, 5) behind bad ones", x.of(0, 5), 3);
    DUE.is("of(0, 1) behind bad ones", x.of(0, 1), 9);
    DUE.is("count(3) behind bad ones", x.count(3), 0);
  }

  private static void needsAndPrices() {
    int[][] needs = {{1, 1, 1, 1, 1, 1, 1, 1, 1, 1}, {0, 0, 0, 0, 0, 0, 0, 0, 0, 0},
        {1, 2, 3, 1, 2, 3, 1, 2, 3, 1}, {2, 3, 4, 2, 3, 4, 2, 3, 4, 2},
        {0, 0, 0, 0, 0, 0, 0, 0, 0, 0}, {0, 1, 0, 1, 0, 1, 0, 1, 0, 1}};
    int[][] price = {{0, 1, 2, 3, 4, 5, 6, 7, 8, 9}, {5, 6, 7, 8, 9, 10, 11, 12, 13, 14},
        {0, 2, 4, 6, 8, 10, 12, 14, 16, 18}, {0, 0, 1, 3, 5, 7, 9, 11, 13, 15},
        {0, 0, 0, 0, 0, 0, 0, 0, 0, 0}, {1, 2, 3, 4, 5, 6, 7, 8, 9, 10}};
    for (int kind = 0; kind < 6; kind++) {
      RefusedMayAsk x = new RefusedMayAsk();
      x.maid(kind, 0);
      for (int number = 0; number < 10; number++) {
        x.set(1, 0, number);
        DUE.is("NEEDS of " + kind + ", " + number, x.of(0, 2), needs[kind][number]);
        DUE.is("PRICE of " + kind + ", " + number, x.of(0, 3), price[kind][number]);
      }
    }
  }

  /** Each row: KIND, NUMBER, how she likes him, his NOES, whether she SAYS NO. */
  private static void whomSheRefuses() {
    int[][] rows = {{0, 9, 49, 0, 1}, {0, 0, 50, 9, 0}, {0, 9, 0, 5, 1},
        {1, 9, 49, 0, 1}, {1, 4, 39, 0, 1}, {1, 4, 40, 0, 0}, {1, 9, 50, 0, 0}, {1, 0, 0, 0, 0},
        {1, 5, 49, 9, 1}, {2, 0, 50, 2, 0}, {2, 0, 50, 3, 1}, {2, 0, 49, 0, 1}, {2, 0, 99, 3, 1},
        {3, 0, 69, 2, 1}, {3, 0, 70, 2, 0}, {3, 0, 70, 3, 1}, {3, 0, 99, 0, 0}, {3, 5, 49, 0, 1},
        {4, 0, 99, 0, 1}, {4, 9, 0, 9, 1}, {5, 0, 0, 0, 0}, {5, 1, 99, 0, 1}, {5, 0, 99, 1, 1},
        {5, 9, 0, 9, 0}, {5, 8, 50, 9, 1}};
    for (int[] r : rows) {
      RefusedMayAsk x = new RefusedMayAsk();
      x.man(r[3]);
      x.maid(r[0], r[1]);
      x.likes(0, 0, 1, r[2]);
      DUE.is("SAYS NO of " + java.util.Arrays.toString(r), x.told(0, 0, 3), r[4]);
    }
  }

  private static void mayAsk() {
    RefusedMayAsk x = new RefusedMayAsk();
    x.man(0);
    x.man(9);
    x.maid(2, 2);
    x.maid(1, 0);
    for (int noes = 0; noes < 10; noes++) {
      x.set(0, 0, noes);
      DUE.is("MAY ASK with " + noes, x.told(0, 0, 2), noes >= 3 ? 1 : 0);
    }
    DUE.is("ask(1, 1)", x.ask(1, 1), 1);
    DUE.is("he is MARRIED", x.told(1, 0, 2), 0);
    DUE.is("she is MARRIED", x.told(0, 1, 2), 0);
    DUE.is("of(1, 4)", x.of(1, 4), 1);
    DUE.is("of(1, 6)", x.of(1, 6), 1);
    DUE.is("of(0, 4)", x.of(0, 4), NONE);
    DUE.is("of(0, 6)", x.of(0, 6), NONE);
  }

  private static void ruleAtFirst() {
    RefusedMayAsk x = new RefusedMayAsk();
    x.man(0);
    x.maid(0, 0);
    int[][] rows = {{50, 50, 50, 1}, {30, 20, 0, 0}, {31, 20, 1, 1}, {30, 19, 0, 0},
        {99, 99, 99, 1}, {99, 50, 99, 1}, {99, 51, 99, 1}, {99, 49, 98, 1}, {0, 0, 0, 0}};
    for (int[] r : rows) {
      x.likes(0, 0, 0, r[0]);
      x.likes(0, 0, 1, r[1]);
      DUE.is("worth by " + r[0] + ", " + r[1], x.told(0, 0, 4), r[2]);
      DUE.is("wants by " + r[0], x.told(0, 0, 5), r[3]);
    }
  }
}
