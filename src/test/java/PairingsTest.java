/** Promises 16 to 22: pairings, best, row, year, judge, drawn, chance. */
public final class PairingsTest {
  private static final int BAD = RefusedMayAsk.BAD, NONE = RefusedMayAsk.NONE;
  private static final Due DUE = new Due();

  public static void main(String[] args) {
    numbersOfRows();
    steadyRows();
    bestRows();
    likeRows();
    marriagesDoNotMatter();
    toldRows();
    years();
    yearsInThought();
    judged();
    judgedStories();
    draws();
    chances();
    DUE.end();
  }

  /** A town of MEN without NOES and PLAIN maids who refuse nobody. */
  private static RefusedMayAsk town(int men, int maids) {
    RefusedMayAsk x = new RefusedMayAsk();
    for (int i = 0; i < men; i++) {
      x.man(0);
    }
    for (int i = 0; i < maids; i++) {
      x.maid(1, 0);
    }
    return x;
  }

  private static void numbersOfRows() {
    int[][] all = {{1, 1, 1, 1, 1}, {1, 2, 3, 4, 5}, {1, 3, 7, 13, 21}, {1, 4, 13, 34, 73},
        {1, 5, 21, 73, 209}};
    int[][] full = {{1, 1, 1, 1, 1}, {1, 1, 2, 3, 4}, {1, 2, 2, 6, 12}, {1, 3, 6, 6, 24},
        {1, 4, 12, 24, 24}};
    for (int men = 0; men <= 4; men++) {
      for (int maids = 0; maids <= 4; maids++) {
        RefusedMayAsk x = town(men, maids);
        DUE.is("LAWFUL of " + men + ", " + maids, x.pairings(0), all[men][maids]);
        DUE.is("STEADY of " + men + ", " + maids, x.pairings(1), full[men][maids]);
      }
    }
    RefusedMayAsk x = town(2, 2);
    DUE.is("pairings(-1)", x.pairings(-1), BAD);
    DUE.is("pairings(2)", x.pairings(2), BAD);
    x.set(1, 0, 9);
    x.likes(0, 0, 1, 0);
    DUE.is("one pair is none", x.pairings(0), 5);
    DUE.is("one pair is none", x.pairings(1), 2);
    DUE.is("he has the other", x.best(1, 0), 1);
  }

  private static void steadyRows() {
    RefusedMayAsk x = town(2, 2);
    x.likes(0, 0, 0, 60);
    x.likes(1, 1, 0, 60);
    x.likes(0, 1, 1, 60);
    x.likes(1, 0, 1, 60);
    DUE.is("his or her way", x.pairings(1), 2);
    x.likes(0, 0, 1, 61);
    DUE.is("not her way any more", x.pairings(1), 1);
    x.likes(0, 0, 1, 60);
    DUE.is("of like liking both", x.pairings(1), 2);
    // liked 0 is more than having none
    RefusedMayAsk y = town(1, 1);
    y.likes(0, 0, 0, 0);
    y.likes(0, 0, 1, 0);
    DUE.is("not alone", y.pairings(1), 1);
    DUE.is("best(1, 0)", y.best(1, 0), 0);
    // a pair that she says no to breaks nothing
    RefusedMayAsk z = town(1, 0);
    z.maid(4, 0);
    DUE.is("alone", z.pairings(1), 1);
    DUE.is("best(1, 0)", z.best(1, 0), NONE);
  }

  private static void bestRows() {
    RefusedMayAsk x = town(2, 2);
    DUE.is("best(2, 0)", x.best(2, 0), BAD);
    DUE.is("best(-1, 0)", x.best(-1, 0), BAD);
    DUE.is("best(0, 2)", x.best(0, 2), BAD);
    DUE.is("best(0, -2)", x.best(0, -2), BAD);
    // he 0 and she 0 like each other more than any, but most CONTENT is otherwise
    x.likes(0, 0, 0, 60);
    x.likes(0, 0, 1, 60);
    x.likes(0, 1, 0, 59);
    x.likes(0, 1, 1, 59);
    x.likes(1, 0, 0, 59);
    x.likes(1, 0, 1, 59);
    x.likes(1, 1, 0, 20);
    x.likes(1, 1, 1, 20);
    DUE.is("LAWFUL", x.best(0, NONE), 68 + 68);
    DUE.is("LAWFUL", x.best(0, 0), 1);
    DUE.is("LAWFUL", x.best(0, 1), 0);
    DUE.is("STEADY", x.best(1, NONE), 70);
    DUE.is("STEADY", x.best(1, 0), 0);
    DUE.is("STEADY", x.best(1, 1), 1);
    RefusedMayAsk y = town(0, 2);
    DUE.is("nobody", y.best(0, NONE), 0);
    DUE.is("nobody", y.best(1, NONE), 0);
    DUE.is("nobody", y.best(1, 0), BAD);
  }

  private static void likeRows() {
    RefusedMayAsk x = town(3, 2);
    DUE.is("the last two, as none comes first", x.best(0, 0), NONE);
    DUE.is("the last two", x.best(0, 1), 0);
    DUE.is("the last two", x.best(0, 2), 1);
    DUE.is("CONTENT", x.best(0, NONE), 100);
    Due.text(x, "takes 1;worth 0;wants 1;");
    x.force(1);
    DUE.is("none at all", x.best(0, 2), NONE);
    DUE.is("but STEADY", x.best(1, 2), 1);
    DUE.is("CONTENT", x.best(0, NONE), 0);
    Due.text(x, "takes 1;worth 1000-2000*(man=2);wants 1;");
    x.force(2);
    DUE.is("each worth 99 at most, 0 at least", x.best(0, NONE), 198);
    DUE.is("each worth 99 at most, 0 at least", x.best(0, 2), NONE);
  }

  private static void marriagesDoNotMatter() {
    RefusedMayAsk x = town(2, 2);
    x.ask(0, 0);
    DUE.is("LAWFUL", x.pairings(0), 7);
    DUE.is("STEADY", x.pairings(1), 2);
    DUE.is("best", x.best(0, 0), 0);
    Due.text(x, "takes month-1;worth noes;wants 1;");
    x.force(1);
    DUE.is("by THE MONTH nobody", x.pairings(0), 1);
  }

  private static void toldRows() {
    RefusedMayAsk x = town(3, 2);
    x.set(1, 0, 9);
    x.likes(0, 0, 1, 10);
    x.likes(1, 1, 0, 60);
    x.likes(1, 1, 1, 60);
    int[][] rows = {{0, 0, 1, 0}, {1, 1, 1, 0}, {NONE, 0, NONE, 2}, {NONE, 1, 0, 3},
        {0, 1, NONE, 1}, {2, 1, NONE, 0}, {NONE, NONE, NONE, 2}, {-2, NONE, NONE, 0},
        {NONE, NONE, 2, 0}, {1, NONE, 0, 2}, {0, NONE, 2, 0}, {0, 1, 1, 0}};
    for (int[] r : rows) {
      for (int sort = 0; sort < 3; sort++) {
        Due.sheet(x, sort, sort, r[0], r[1], r[2]);
        DUE.is("row " + r[0] + ", " + r[1] + ", " + r[2], x.row(sort), r[3]);
      }
    }
    Due.sheet(x, 0, 0, 255, 257, 256);
    DUE.is("bytes", x.row(0), 3);
    DUE.is("row(-1)", x.row(-1), BAD);
    DUE.is("row(4)", x.row(4), BAD);
    DUE.is("row(3)", x.row(3), -11);
    Due.sheet(x, 3, 2, 0, 1);
    DUE.is("too short", x.row(3), BAD);
    Due.sheet(x, 3, 2, 0, 1, NONE, NONE);
    DUE.is("too long", x.row(3), BAD);
  }

  private static void year(RefusedMayAsk x, int n, int... want) {
    for (int what = 0; what < 7; what++) {
      int due = what < want.length ? want[what] : NONE;
      DUE.is("year(" + n + ", " + what + ")", x.year(n, what), due);
    }
  }

  private static void years() {
    RefusedMayAsk x = town(3, 2);
    x.maid(4, 7);
    x.maid(0, 3);
    DUE.is("year(-1, 0)", x.year(-1, 0), BAD);
    DUE.is("year(13, 0)", x.year(13, 0), BAD);
    DUE.is("year(0, -1)", x.year(0, -1), BAD);
    DUE.is("year(0, 7)", x.year(0, 7), BAD);
    x.likes(2, 3, 0, 51);
    year(x, 0, 0, 0, 0);
    year(x, 1, 2, 3, 0, 0, 1, NONE);
    year(x, 2, 3, 4, 0, 0, 1, 3);
    year(x, 12, 3, 4, 0, 0, 1, 3);
    // he 0 wants but her 1 (and her 3); he 1 would have liked her more
    x.likes(0, 0, 0, 30);
    x.likes(0, 1, 0, 31);
    x.likes(0, 2, 0, 30);
    x.likes(1, 1, 0, 90);
    year(x, 1, 2, 3, 0, 1, 0, NONE);
    year(x, 2, 3, 4, 0, 1, 0, 3);
    // she 3 refuses him 2 again and again
    x.likes(2, 3, 1, 49);
    year(x, 3, 2, 5, 6, 1, 0, NONE);
    // she 1 refuses him 0, so she is left for him 1
    x.likes(0, 1, 1, 49);
    x.set(1, 1, 9);
    year(x, 1, 2, 3, 14, NONE, 1, 0);
    year(x, 2, 3, 4, 14, 3, 1, 0);
  }

  private static void yearsInThought() {
    RefusedMayAsk x = town(2, 2);
    x.ask(1, 1);
    year(x, 0, 1, 0, 0, NONE, 1);
    year(x, 5, 2, 1, 0, 0, 1);
    DUE.is("nobody asked", x.count(3), 1);
    DUE.is("nobody was taken", x.count(2), 1);
    RefusedMayAsk y = town(1, 0);
    y.maid(4, 0);
    Due.text(y, "takes 1;worth 1;wants month<98;");
    y.force(1);
    y.set(2, 0, 95);
    year(y, 12, 0, 3, 0);
    Due.text(y, "takes 1;worth 1;wants noes<9;");
    y.force(2);
    year(y, 12, 0, 9, 0);
  }

  private static void judged() {
    RefusedMayAsk x = town(2, 1);
    x.maid(0, 0);
    DUE.is("judge(-1, 0)", x.judge(-1, 0), BAD);
    DUE.is("judge(4, 0)", x.judge(4, 0), BAD);
    DUE.is("judge(0, -1), missing", x.judge(0, -1), BAD);
    DUE.is("judge(0, 2), missing", x.judge(0, 2), BAD);
    DUE.is("judge(0, 0), missing", x.judge(0, 0), -11);
    Due.sheet(x, 0, 1, 0, 0);
    DUE.is("not by threes", x.judge(0, 0), BAD);
    DUE.is("not by threes", x.judge(0, 1), BAD);
    Due.sheet(x, 0, 1, 0, 0, 1, 0);
    DUE.is("not by threes", x.judge(0, 1), BAD);
    x.sheet(0, 0, 0);
    DUE.is("no row", x.judge(0, 0), NONE);
    DUE.is("no row", x.judge(0, 1), 0);
  }

  private static void story(RefusedMayAsk x, int first, int falseOnes, int... items) {
    Due.sheet(x, 0, 2, items);
    String told = java.util.Arrays.toString(items);
    DUE.is("JUDGED " + told, x.judge(0, 0), first);
    DUE.is("FALSE " + told, x.judge(0, 1), falseOnes);
  }

  private static void judgedStories() {
    RefusedMayAsk x = town(2, 1);
    x.maid(0, 0);
    story(x, NONE, 0, 0, 0, 1);
    story(x, NONE, 1, 0, 0, 0);
    story(x, NONE, 1, 0, 0, 0, 0, 1, 1);
    story(x, NONE, 2, 0, 0, 0, 0, 1, 0);
    story(x, 1, 0, 0, 0, 1, 1, 0, 1);
    story(x, 1, 0, 0, 0, 1, 0, 1, 1);
    story(x, 0, 0, 0, 1, 1);
    story(x, 0, 0, 2, 0, 1);
    story(x, 0, 0, -1, 0, 1);
    story(x, 0, 0, 0, 2, 1);
    story(x, 0, 0, 0, -1, 1);
    story(x, 0, 0, 0, 0, 2);
    story(x, 0, 0, 0, 0, -1);
    story(x, 2, 2, 0, 0, 0, 0, 0, 0, 0, 0, 5, 0, 0, 0);
    DUE.is("nobody asked", x.count(3), 0);
    DUE.is("his NOES are as they were", x.of(0, 5), 0);
    Due.text(x, "takes month;worth 0;wants 0;");
    x.force(1);
    story(x, NONE, 0, 0, 0, 0, 1, 0, 1);
    story(x, 1, 1, 0, 0, 1, 1, 0, 1);
  }

  private static void draws() {
    for (int seed = -3; seed <= 3; seed++) {
      RefusedMayAsk x = town(3, 1);
      x.maid(0, 0);
      x.maid(3, 1);
      x.likes(0, 1, 0, 70);
      x.likes(1, 2, 0, 20);
      int drawn = x.drawn(seed * 715827882);
      DUE.is("nothing became so", x.told(0, 0, 1), 50);
      int z = seed * 715827882;
      for (int man = 0; man < 3; man++) {
        for (int maid = 0; maid < 3; maid++) {
          z = z * 1103515245 + 12345;
          x.likes(man, maid, 1, (z >>> 9) % 100);
        }
      }
      DUE.is("drawn, seed " + seed, drawn, x.pairings(1));
    }
    RefusedMayAsk y = town(4, 4);
    DUE.is("drawn, like men", y.drawn(1), 24);
    DUE.is("drawn, nobody", new RefusedMayAsk().drawn(Integer.MIN_VALUE), 1);
  }

  private static void chances() {
    RefusedMayAsk x = town(2, 2);
    DUE.is("n 0", x.chance(0, 0, 0), RefusedMayAsk.NO);
    DUE.is("n 21", x.chance(0, 21, 0), RefusedMayAsk.NO);
    DUE.is("n -1", x.chance(0, -1, 1), RefusedMayAsk.NO);
    DUE.is("part -1", x.chance(0, 1, -1), RefusedMayAsk.NO);
    DUE.is("part 2", x.chance(0, 1, 2), RefusedMayAsk.NO);
    // there is always a STEADY row, so the chance is always whole
    for (int n = 1; n <= 20; n++) {
      DUE.is("above", x.chance(Integer.MAX_VALUE - 5, n, 0), 1);
      DUE.is("below", x.chance(Integer.MAX_VALUE - 5, n, 1), 1);
    }
    DUE.is("nothing became so", x.told(1, 1, 1), 50);
  }
}
