/** Counts the answers that were not the ones due, and ends a test by them. */
final class Due {
  private int asked = 0;
  private int wrong = 0;

  void is(String call, long got, long want) {
    asked++;
    if (got != want) {
      wrong++;
      System.out.println(call + " answered " + got + ", due is " + want);
    }
  }

  void holds(String what, boolean yes) {
    asked++;
    if (!yes) {
      wrong++;
      System.out.println(what + " does not hold");
    }
  }

  void end() {
    System.out.println(asked + " answers, " + wrong + " not as due");
    if (wrong != 0) {
      System.exit(1);
    }
  }

  /** Feeds a text, byte by byte, and makes it a TEXT. */
  static int text(RefusedMayAsk x, String text) {
    for (int i = 0; i < text.length(); i++) {
      x.feed(text.charAt(i));
    }
    return x.text();
  }

  /** Lays a SHEET of a sort with these items. */
  static void sheet(RefusedMayAsk x, int sheet, int sort, int... items) {
    x.sheet(sheet, sort, items.length);
    for (int i = 0; i < items.length; i++) {
      x.cell(sheet, i, items[i]);
    }
  }
}
