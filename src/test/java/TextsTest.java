/** Promises 8 to 10: feed, text, force; what TEXTS mean, and where their FAULTS are. */
public final class TextsTest {
  private static final int BAD = RefusedMayAsk.BAD, FULL = RefusedMayAsk.FULL;
  private static final Due DUE = new Due();

  public static void main(String[] args) {
    tape();
    sixTexts();
    forced();
    values();
    names();
    takesAndWants();
    faults();
    openOnes();
    DUE.end();
  }

  private static void tape() {
    RefusedMayAsk x = new RefusedMayAsk();
    DUE.is("feed(-1)", x.feed(-1), BAD);
    DUE.is("feed(256)", x.feed(256), BAD);
    for (int i = 1; i <= 160; i++) {
      DUE.is("feed", x.feed(i % 2 == 0 ? 0 : 255), i);
    }
    DUE.is("feed 161", x.feed(32), FULL);
    DUE.is("feed 161 of 256", x.feed(256), BAD);
    DUE.is("count(5)", x.count(5), 160);
    DUE.is("text()", x.text(), -100);
    DUE.is("count(5)", x.count(5), 0);
    DUE.is("count(4)", x.count(4), 1);
    DUE.is("feed", x.feed(32), 1);
    StringBuilder longest = new StringBuilder("takes 1;worth 1;wants 1");
    while (longest.length() < 157) {
      longest.append("+1");
    }
    longest.append(" ;");
    DUE.is("159 bytes more", Due.text(x, longest.toString()), 1);
  }

  private static void sixTexts() {
    RefusedMayAsk x = new RefusedMayAsk();
    for (int text = 1; text <= 5; text++) {
      DUE.is("text", Due.text(x, "takes 1;worth 1;wants 1;"), text);
      DUE.is("count(4)", x.count(4), text + 1);
      DUE.is("count(5)", x.count(5), 0);
    }
    DUE.is("a seventh", Due.text(x, "takes 1;worth 1;wants 1;"), FULL);
    DUE.is("THE TAPE stays", x.count(5), 24);
    DUE.is("a seventh, faulty", Due.text(x, "x"), FULL);
    DUE.is("THE TAPE stays", x.count(5), 25);
    DUE.is("count(4)", x.count(4), 6);
  }

  private static void forced() {
    RefusedMayAsk x = new RefusedMayAsk();
    x.man(0);
    x.maid(1, 0);
    DUE.is("force(1) ahead", x.force(1), BAD);
    Due.text(x, "takes 0;worth 7;wants 0;");
    Due.text(x, "takes 1;worth 8;wants 1;");
    DUE.is("text alone changes no RULE", x.told(0, 0, 4), 50);
    DUE.is("force(2)", x.force(2), 0);
    DUE.is("worth", x.told(0, 0, 4), 8);
    DUE.is("force(1)", x.force(1), 2);
    DUE.is("worth", x.told(0, 0, 4), 7);
    DUE.is("count(6)", x.count(6), 1);
    DUE.is("force(3)", x.force(3), BAD);
    DUE.is("force(-1)", x.force(-1), BAD);
    DUE.is("force(0)", x.force(0), 1);
    DUE.is("worth", x.told(0, 0, 4), 50);
    DUE.is("force(0) again", x.force(0), 0);
  }

  /** The value of an E, by asking whether it is that (worth is bounded). */
  private static void value(String e, int want) {
    RefusedMayAsk x = new RefusedMayAsk();
    x.man(2);
    x.maid(1, 3);
    x.likes(0, 0, 0, 60);
    x.likes(0, 0, 1, 70);
    x.set(2, 0, 11);
    String due = want < 0 ? "-" + digits(-(want + 1)) + "-1" : digits(want);
    int text = Due.text(x, "takes 1;worth(" + e + ")=(" + due + ");wants 1;");
    DUE.is("reading " + e, text, 1);
    x.force(1);
    DUE.is(e + " = " + want, x.told(0, 0, 4), 1);
  }

  private static String digits(int v) {
    return v <= 9999 ? "" + v : "(" + digits(v / 9999) + "*9999+" + v % 9999 + ")";
  }

  private static void values() {
    value("1 or 0", 1);
    value("0 or 0", 0);
    value("5 or 0", 1);
    value("5 and 7", 1);
    value("5 and 0", 0);
    value("5", 5);
    value("not 5", 0);
    value("not 0", 1);
    value("not not 7", 1);
    value("not 3<2", 1);
    value("not 2<3 or 1", 1);
    value("1 or 1 and 0", 1);
    value("0 and 1 or 1", 1);
    value("0 and(1 or 1)", 0);
    value("2<3", 1);
    value("3<3", 0);
    value("-3<2", 1);
    value("3=3", 1);
    value("3=4", 0);
    value("1+2<2+2", 1);
    value("(2<3)+(3<2)+5", 6);
    value("10-3-2", 5);
    value("10-(3-2)", 9);
    value("2+3*4", 14);
    value("(2+3)*4", 20);
    value("-2*3", -6);
    value("2*-3", -6);
    value("2--3", 5);
    value("- -3", 3);
    value("-(1+2)", -3);
    value("1-1 and 1", 0);
    value("0009", 9);
    value("9999", 9999);
    value("9999*9999", 99980001);
    value("9999*9999*30", -1295567266);
    value("9999*9999*9999=0", 0);
    value("0<9999*9999*30", 0);
    value("8192*8192*32", Integer.MIN_VALUE);
  }

  private static void names() {
    value("like", 60);
    value("hers", 70);
    value("noes", 2);
    value("month", 11);
    value("man", 0);
    value("maid", 0);
    RefusedMayAsk x = new RefusedMayAsk();
    x.man(0);
    x.man(0);
    x.man(0);
    x.maid(0, 0);
    x.maid(0, 0);
    x.maid(0, 0);
    x.maid(0, 0);
    Due.text(x, "takes 1;worth man*10+maid;wants 1;");
    x.force(1);
    DUE.is("man 2, maid 3", x.told(2, 3, 4), 23);
    DUE.is("man 1, maid 2", x.told(1, 2, 4), 12);
    Due.text(x, "takes 1;worth-1;wants 1;");
    x.force(2);
    DUE.is("worth below 0", x.told(0, 0, 4), 0);
    Due.text(x, "takes 1;worth 100;wants 1;");
    x.force(3);
    DUE.is("worth above 99", x.told(0, 0, 4), 99);
  }

  private static void takesAndWants() {
    RefusedMayAsk x = new RefusedMayAsk();
    x.man(0);
    x.man(1);
    x.maid(1, 0);
    x.maid(4, 0);
    Due.text(x, "takes noes-1;worth 1;wants month-5;");
    x.force(1);
    DUE.is("takes -1", x.told(0, 0, 3), 0);
    DUE.is("takes 0", x.told(1, 0, 3), 1);
    DUE.is("an AUNT refuses all the same", x.told(0, 1, 3), 1);
    DUE.is("wants -5", x.told(0, 0, 5), 1);
    x.set(2, 0, 5);
    DUE.is("wants 0", x.told(0, 0, 5), 0);
  }

  private static void fault(String text, int place) {
    RefusedMayAsk x = new RefusedMayAsk();
    DUE.is("FAULT of '" + text + "'", Due.text(x, text), -100 - place);
    DUE.is("THE TAPE behind '" + text + "'", x.count(5), 0);
    DUE.is("TEXTS behind '" + text + "'", x.count(4), 1);
  }

  private static void stands(String text) {
    DUE.is("'" + text + "'", Due.text(new RefusedMayAsk(), text), 1);
  }

  private static void faults() {
    fault("", 0);
    fault("  ", 2);
    fault("takes", 5);
    fault("takes ", 6);
    fault("takes 1", 7);
    fault("takes 1;", 8);
    fault("takes 1;worth 1;wants 1", 23);
    fault("takes 1;worth 1;wants 1;;", 24);
    fault("takes 1;worth 1;wants 1; x", 25);
    fault("takes 1;worth 1;wants 1; takes", 25);
    fault("worth 1;", 0);
    fault("takes 1;wants 1;", 8);
    fault("takes 1 1;", 8);
    fault("takes ;", 6);
    fault("takes 1 + ;", 10);
    fault("takes 1<2<3;", 9);
    fault("takes 1<2=3;", 9);
    fault("takes not 1<2<3;", 13);
    fault("takes 1 + not 2;", 10);
    fault("takes 1 < not 2;", 10);
    fault("takes - not 2;", 8);
    fault("takes like hers;", 11);
    fault("takes likes;", 6);
    fault("takes lik;", 6);
    fault("takes bike;", 6);
    fault("takes likez;", 6);
    fault("takes likea;", 6);
    fault("takes 1 end 1;", 8);
    fault("takesx 1;", 0);
    fault(" take 1;", 1);
    fault("takes or;", 6);
    fault("takes 1 or;", 10);
    fault("takes 1 and and 1;", 12);
    fault("takes (1;", 8);
    fault("takes 1);", 7);
    fault("takes ();", 7);
    fault("takes 12345;", 6);
    fault("takes 1 12345;", 8);
    fault("takes 1\t;", 7);
    fault("takes 1 @", 8);
    fault("takes A;", 6);
    fault("takes 1*;", 8);
    fault("takes *1;", 6);
    fault("takes +1;", 6);
    fault("takes 1\r;", 7);
    fault("takes 1" + (char) 11 + "1;", 7);
    fault("takes" + (char) 160 + "1;", 5);
    fault("takes 1 @ 12345 x", 8);
    fault("takes 1;worth noes;wants wants;", 25);
    stands("\n takes\n1;worth 1;wants 1;\n \n");
    stands("takes1;worth(1);wants-1;");
    stands("takes 1or 1and 1;worth 1;wants not(1);");
    stands("takes like+hers+noes+month+man+maid;worth 1<2;wants 1=2;");
  }

  private static void openOnes() {
    String end = ";worth 1;wants 1;";
    stands("takes (((((1)))))" + end);
    fault("takes ((((((1))))))" + end, 11);
    stands("takes -----1" + end);
    fault("takes ------1" + end, 11);
    stands("takes not not not not not 1" + end);
    fault("takes not not not not not not 1" + end, 26);
    fault("takes not(not(not(1)))" + end, 17);
    stands("takes not(not(not 1))" + end);
    stands("takes not(not(not 1 and 2))and not(not(not 1))" + end);
    fault("takes not(not(not 1<(2)))" + end, 20);
    stands("takes not(not(-1<(2)))" + end);
    stands("takes -1-(-2)-(-3)-(-4)-(-5)-(-6)-(-7)" + end);
    stands("takes 1-1-1-1-1-1-1-1" + end);
    stands("takes not 1 or not 1 or not 1 or not 1 or not 1 or not 1" + end);
    stands("takes (1)+(1)+(1)+(1)+(1)+(1)" + end);
    stands("takes -(-(-1*(1)))" + end);
    fault("takes -(-(-(1)))" + end, 11);
    stands("takes ((((-1*(1)))))" + end);
    fault("takes ((((-(1)))))" + end, 11);
    fault("takes not 1<-(-(-(1)))" + end, 16);
  }
}
