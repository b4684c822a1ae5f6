/** Promises 23 to 25: image, back, count. */
public final class ImageTest {
  private static final int BAD = RefusedMayAsk.BAD, STATE = RefusedMayAsk.STATE;
  private static final int NONE = RefusedMayAsk.NONE;
  private static final Due DUE = new Due();

  public static void main(String[] args) {
    allThatIsKept();
    allThatIsNot();
    whoComesAgain();
    counts();
    DUE.end();
  }

  private static RefusedMayAsk town() {
    RefusedMayAsk x = new RefusedMayAsk();
    x.man(1);
    x.man(2);
    x.maid(1, 3);
    x.maid(2, 4);
    x.likes(0, 1, 0, 11);
    x.likes(1, 0, 1, 12);
    x.set(2, 0, 30);
    x.ask(0, 0);
    return x;
  }

  private static void allThatIsKept() {
    RefusedMayAsk x = town();
    DUE.is("back() ahead", x.back(), STATE);
    DUE.is("image()", x.image(), 2);
    Due.text(x, "takes 1;worth 1;wants 1;");
    x.force(1);
    x.likes(0, 1, 0, 77);
    x.likes(1, 0, 1, 78);
    x.set(0, 1, 9);
    x.set(1, 0, 0);
    x.part(0);
    x.ask(1, 0);
    x.man(0);
    x.maid(5, 5);
    for (int time = 0; time < 2; time++) {
      DUE.is("back()", x.back(), 2);
      DUE.is("HE likes HER", x.told(0, 1, 0), 11);
      DUE.is("SHE likes HIM", x.told(1, 0, 1), 12);
      DUE.is("NOES", x.of(1, 5), 2);
      DUE.is("NUMBER", x.of(0, 1), 3);
      DUE.is("MARRIED", x.of(0, 6), 0);
      DUE.is("MARRIED", x.of(0, 4), 0);
      DUE.is("not MARRIED", x.of(1, 6), NONE);
      DUE.is("THE MONTH", x.count(3), 31);
      DUE.is("THE RULE", x.count(6), 0);
      DUE.is("MEN", x.count(0), 2);
      DUE.is("MAIDS", x.count(1), 2);
      x.likes(0, 1, 0, 5);
      x.set(2, 0, 0);
      x.part(0);
    }
    DUE.is("a new image", x.image(), 2);
    x.likes(0, 1, 0, 6);
    x.back();
    DUE.is("HE likes HER", x.told(0, 1, 0), 5);
    DUE.is("not MARRIED", x.of(0, 6), NONE);
  }

  private static void allThatIsNot() {
    RefusedMayAsk x = town();
    x.image();
    Due.text(x, "takes 1;worth 1;wants 1;");
    x.feed(32);
    Due.sheet(x, 0, 0, 1, NONE);
    x.back();
    DUE.is("TEXTS stay", x.count(4), 2);
    DUE.is("THE TAPE stays", x.count(5), 1);
    DUE.is("SHEETS stay", x.row(0), 2);
  }

  private static void whoComesAgain() {
    RefusedMayAsk x = town();
    x.image();
    x.man(7);
    x.maid(1, 7);
    x.likes(2, 2, 0, 1);
    x.likes(2, 2, 1, 99);
    x.likes(0, 2, 0, 2);
    x.likes(2, 0, 1, 3);
    DUE.is("he is taken", x.ask(2, 2), 1);
    x.back();
    DUE.is("he is gone", x.of(2, 5), BAD);
    DUE.is("she is gone", x.of(2, 1), BAD);
    DUE.is("a man again", x.man(5), 2);
    DUE.is("a maid again", x.maid(0, 8), 2);
    DUE.is("KIND", x.of(2, 0), 0);
    DUE.is("NOES", x.of(2, 5), 5);
    DUE.is("not MARRIED", x.of(2, 6), NONE);
    DUE.is("not MARRIED", x.of(2, 4), NONE);
    for (int what = 0; what < 2; what++) {
      DUE.is("50 at first", x.told(2, 2, what), 50);
      DUE.is("50 at first", x.told(0, 2, what), 50);
      DUE.is("50 at first", x.told(2, 0, what), 50);
    }
    RefusedMayAsk y = new RefusedMayAsk();
    DUE.is("image() of nobody", y.image(), 0);
    y.man(0);
    y.maid(0, 0);
    DUE.is("back() to nobody", y.back(), 0);
    DUE.is("nobody", y.count(0) + y.count(1), 0);
  }

  private static void counts() {
    RefusedMayAsk x = town();
    x.maid(0, 0);
    x.feed(1);
    x.feed(2);
    int[] want = {2, 3, 1, 31, 1, 2, 0};
    for (int what = 0; what < 7; what++) {
      DUE.is("count(" + what + ")", x.count(what), want[what]);
    }
    x.text();
    Due.text(x, "takes 1;worth 1;wants 1;");
    x.force(1);
    DUE.is("count(4)", x.count(4), 2);
    DUE.is("count(5)", x.count(5), 0);
    DUE.is("count(6)", x.count(6), 1);
    DUE.is("count(-1)", x.count(-1), BAD);
    DUE.is("count(7)", x.count(7), BAD);
  }
}
