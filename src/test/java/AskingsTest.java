/** Promises 11 to 15: ask, part, way, mistake, sure. */
public final class AskingsTest {
  private static final int BAD = RefusedMayAsk.BAD, STATE = RefusedMayAsk.STATE;
  private static final int NONE = RefusedMayAsk.NONE;
  private static final Due DUE = new Due();

  public static void main(String[] args) {
    asked();
    bounds();
    parted();
    shortestWay();
    cheapestWay();
    waysGoByMonths();
    noWay();
    mistakes();
    sureRefusals();
    DUE.end();
  }

  private static RefusedMayAsk town(int[] noes, int[][] maids) {
    RefusedMayAsk x = new RefusedMayAsk();
    for (int n : noes) {
      x.man(n);
    }
    for (int[] m : maids) {
      x.maid(m[0], m[1]);
    }
    return x;
  }

  private static void asked() {
    RefusedMayAsk x = town(new int[] {0, 1}, new int[][] {{0, 0}, {4, 0}});
    DUE.is("ask(2, 0)", x.ask(2, 0), BAD);
    DUE.is("ask(-1, 0)", x.ask(-1, 0), BAD);
    DUE.is("ask(0, 2)", x.ask(0, 2), BAD);
    DUE.is("ask(0, -1)", x.ask(0, -1), BAD);
    DUE.is("too few NOES", x.ask(0, 0), STATE);
    DUE.is("no month went by", x.count(3), 0);
    DUE.is("an AUNT", x.ask(0, 1), 0);
    DUE.is("his NOES", x.of(0, 5), 1);
    DUE.is("a month went by", x.count(3), 1);
    DUE.is("ask(0, 0)", x.ask(0, 0), 1);
    DUE.is("his NOES stay", x.of(0, 5), 1);
    DUE.is("a month went by", x.count(3), 2);
    DUE.is("of(0, 6)", x.of(0, 6), 0);
    DUE.is("of(0, 4)", x.of(0, 4), 0);
    DUE.is("she is MARRIED", x.ask(1, 0), STATE);
    DUE.is("he is MARRIED", x.ask(0, 1), STATE);
    DUE.is("count(2)", x.count(2), 1);
    DUE.is("of(1, 5)", x.of(1, 5), 1);
  }

  private static void bounds() {
    RefusedMayAsk x = town(new int[] {9}, new int[][] {{4, 0}});
    x.set(2, 0, 98);
    DUE.is("ask", x.ask(0, 0), 0);
    DUE.is("NOES 9 at most", x.of(0, 5), 9);
    DUE.is("THE MONTH", x.count(3), 99);
    x.ask(0, 0);
    DUE.is("THE MONTH 99 at most", x.count(3), 99);
  }

  private static void parted() {
    RefusedMayAsk x = town(new int[] {0, 0}, new int[][] {{0, 0}, {1, 0}});
    DUE.is("part(2)", x.part(2), BAD);
    DUE.is("part(-1)", x.part(-1), BAD);
    DUE.is("part(1)", x.part(1), STATE);
    x.ask(1, 1);
    DUE.is("part(0)", x.part(0), STATE);
    DUE.is("part(1)", x.part(1), 1);
    DUE.is("of(1, 6)", x.of(1, 6), NONE);
    DUE.is("of(1, 4)", x.of(1, 4), NONE);
    DUE.is("THE MONTH", x.count(3), 1);
    DUE.is("he may ask again", x.ask(1, 1), 1);
  }

  private static void way(RefusedMayAsk x, int man, int maid, int sort, int... want) {
    for (int what = 0; what < 6; what++) {
      int due = what < want.length ? want[what] : NONE;
      DUE.is("way(" + man + ", " + maid + ", " + sort + ", " + what + ")",
          x.way(man, maid, sort, what), due);
    }
  }

  private static void shortestWay() {
    RefusedMayAsk x = town(new int[] {0}, new int[][] {{2, 2}, {4, 9}, {1, 3}, {0, 7}});
    x.likes(0, 2, 1, 0);
    x.likes(0, 3, 1, 0);
    way(x, 0, 1, 0, 0, 0);
    way(x, 0, 3, 0, 1, 0, 1);
    way(x, 0, 0, 0, 3, 15, 1, 2, 3);
    x.set(0, 0, 1);
    way(x, 0, 0, 0, 2, 8, 1, 2);
    way(x, 0, 0, 1, 2, 7, 1, 3);
    x.set(0, 0, 3);
    way(x, 0, 0, 0, 0, 0);
    DUE.is("nothing was asked", x.count(3), 0);
    DUE.is("his NOES are as they were", x.of(0, 5), 3);
    int[][] bad = {{1, 0, 0, 0}, {-1, 0, 0, 0}, {0, 4, 0, 0}, {0, -1, 0, 0}, {0, 0, 2, 0},
        {0, 0, -1, 0}, {0, 0, 0, 6}, {0, 0, 0, -1}};
    for (int[] b : bad) {
      DUE.is("bad way", x.way(b[0], b[1], b[2], b[3]), BAD);
    }
  }

  private static void cheapestWay() {
    RefusedMayAsk x = town(new int[] {0}, new int[][] {{1, 9}, {5, 8}, {4, 0}, {0, 0}});
    x.likes(0, 0, 1, 0);
    way(x, 0, 3, 0, 1, 14, 0);
    way(x, 0, 3, 1, 1, 0, 2);
    // two AUNTS cost as much as one: a row comes ahead of those that begin with it
    RefusedMayAsk y = town(new int[] {1}, new int[][] {{4, 0}, {4, 0}, {4, 0}, {2, 1}});
    way(y, 0, 3, 1, 1, 0, 0);
    way(y, 0, 3, 0, 1, 0, 0);
    // the cheapest row may begin later than the first of the shortest
    RefusedMayAsk z = town(new int[] {1}, new int[][] {{0, 9}, {2, 9}, {0, 1}, {5, 0}});
    z.likes(0, 0, 1, 0);
    z.likes(0, 2, 1, 0);
    z.set(1, 1, 8);
    way(z, 0, 1, 0, 2, 10, 0, 2);
    way(z, 0, 1, 1, 2, 2, 3, 2);
    RefusedMayAsk w = town(new int[] {0}, new int[][] {{4, 0}, {4, 0}, {0, 0}, {3, 0}});
    Due.text(w, "takes 0;worth 0;wants 0;");
    w.force(1);
    way(w, 0, 3, 0, 2, 0, 0, 1);
    way(w, 0, 3, 1, 2, 0, 0, 1);
  }

  private static void waysGoByMonths() {
    RefusedMayAsk x = town(new int[] {0}, new int[][] {{1, 0}, {4, 0}, {2, 1}});
    Due.text(x, "takes month<1;worth 0;wants 0;");
    x.force(1);
    way(x, 0, 2, 0, 2, 5, 1, 0);
    x.set(2, 0, 1);
    way(x, 0, 2, 0, 2, 5, 0, 1);
    x.set(2, 0, 99);
    way(x, 0, 2, 0, 2, 5, 0, 1);
    // each row begins in THE MONTH as it is: she 1, cheaper, would still take him
    RefusedMayAsk y = town(new int[] {0}, new int[][] {{1, 9}, {1, 0}, {0, 0}});
    y.likes(0, 0, 1, 0);
    Due.text(y, "takes month<1;worth 0;wants 0;");
    y.force(1);
    way(y, 0, 2, 1, 1, 14, 0);
  }

  private static void noWay() {
    RefusedMayAsk x = town(new int[] {0, 9}, new int[][] {{0, 0}, {1, 0}, {4, 0}});
    way(x, 0, 0, 0, 1, 0, 2);
    x.ask(1, 2);
    DUE.is("refused", x.of(2, 4), NONE);
    x.likes(1, 1, 1, 50);
    x.ask(1, 1);
    way(x, 0, 1, 0);
    way(x, 1, 0, 0);
    way(x, 0, 0, 1, 1, 0, 2);
    RefusedMayAsk y = town(new int[] {0}, new int[][] {{0, 0}, {1, 0}});
    way(y, 0, 0, 0);
    way(y, 0, 0, 1);
    // each once: one AUNT brings but one refusal
    RefusedMayAsk z = town(new int[] {0}, new int[][] {{2, 1}, {4, 0}});
    way(z, 0, 0, 0);
    // a refusal of hers doesn't help to be let ask her
    RefusedMayAsk w = town(new int[] {0}, new int[][] {{4, 0}, {0, 0}});
    way(w, 0, 0, 0, 0, 0);
  }

  private static void mistakes() {
    RefusedMayAsk x = town(new int[] {0, 0}, new int[][] {{1, 0}, {4, 0}, {1, 0}, {0, 0}});
    DUE.is("mistake(2)", x.mistake(2), BAD);
    DUE.is("mistake(-1)", x.mistake(-1), BAD);
    DUE.is("of like ones the first", x.mistake(0), 0);
    x.likes(0, 1, 0, 0);
    x.likes(0, 3, 0, 0);
    x.likes(0, 2, 0, 49);
    DUE.is("she who refuses is none, nor whom he may not ask", x.mistake(0), 2);
    x.set(0, 0, 1);
    DUE.is("he may ask her now", x.mistake(0), 3);
    x.ask(0, 3);
    DUE.is("MARRIED", x.mistake(0), NONE);
    DUE.is("the other", x.mistake(1), 0);
    x.part(0);
    x.likes(0, 0, 0, 0);
    DUE.is("of like ones the first", x.mistake(0), 0);
  }

  private static void sureRefusals() {
    RefusedMayAsk x = town(new int[] {0, 3}, new int[][] {{4, 0}, {2, 0}, {5, 0}, {1, 5}});
    DUE.is("sure(2)", x.sure(2), BAD);
    DUE.is("sure(-1)", x.sure(-1), BAD);
    DUE.is("sure(0)", x.sure(0), 1);
    DUE.is("sure(1)", x.sure(1), 3);
    x.likes(0, 3, 1, 49);
    DUE.is("sure(0)", x.sure(0), 9);
    x.set(0, 0, 9);
    DUE.is("sure(0), but FLIRT by 9", x.sure(0), 15);
    x.set(0, 0, 8);
    DUE.is("sure(0), FLIRT by 8 takes", x.sure(0), 11);
    Due.text(x, "takes noes=9;worth 0;wants 0;");
    x.force(1);
    DUE.is("the PLAIN takes by 9, the FLIRT never", x.sure(1), 7);
    DUE.is("FLIRT refuses by 9, but 8: takes 0", x.sure(0), 15);
    DUE.is("his NOES are as they were", x.of(0, 5), 8);
    x.likes(1, 3, 1, 0);
    x.set(1, 3, 0);
    x.ask(0, 3);
    x.ask(0, 3);
    DUE.is("MARRIED", x.sure(0), 0);
    DUE.is("she is MARRIED", x.sure(1), 3 | 4);
  }
}
