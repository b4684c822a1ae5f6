/** The bounds of promises 8 to 10, a scene for each sentence that names one. */
public final class TextsBoundsTest {
  private static final int BAD = RefusedMayAsk.BAD, FULL = RefusedMayAsk.FULL;
  private static final String REST = ";worth 1;wants 1;";
  private static final Due DUE = new Due();

  public static void main(String[] args) {
    bytes0To255();
    tapeOf160();
    emptyTape();
    longestText();
    textsToFull();
    faultKeepsTexts();
    shorterBehindLonger();
    endsTooEarly();
    nothingBehind();
    everyByte();
    everyByteBehind();
    wordsSpelt();
    blanks();
    wordsAsLongAsCanBe();
    numbersOf4Digits();
    fiveOpen();
    openTillTheyEnd();
    compareOnce();
    wrapping();
    oneOrZero();
    whichText();
    DUE.end();
  }

  private static Scene scene(int promise, String sentence) {
    return new Scene(DUE, promise, sentence);
  }

  private static Scene rich(int promise, String sentence) {
    return Scene.rich(DUE, promise, sentence);
  }

  private static String times(String part, int n) {
    return part.repeat(n);
  }

  // ---- promise 8

  private static void bytes0To255() {
    scene(8, "A byte (0 .. 255) comes behind THE TAPE: how many it has. BAD").outside("feed(%)", 0, 255, BAD)
        .is("feed(0)", 1).is("feed(255)", 2).is("count(5)", 2);
    rich(8, "A byte (0 .. 255): BAD").outside("feed(%)", 0, 255, BAD).is("feed(50)", 16);
  }

  private static void tapeOf160() {
    Scene s = scene(8, "THE TAPE (160 bytes at most): FULL");
    for (int i = 1; i <= 160; i++) {
      s.is("feed(32)", i);
    }
    s.refused("feed(32)", FULL).refused("feed(0)", FULL).refused("feed(255)", FULL).is("count(5)", 160);
    s.outside("feed(%)", 0, 255, BAD);
    s.is("text()", -260).is("count(5)", 0).is("feed(32)", 1);
    String begun = "takes 1;worth 1;wants 1;";
    scene(8, "FULL changes nothing").fed(begun + times(" ", 160 - begun.length())).refused("feed(120)", FULL)
        .is("text()", 1);
  }

  // ---- promise 9

  private static void emptyTape() {
    scene(9, "the text's size, if it ends too early: an empty TAPE").still("text()", -100).is("count(4)", 1);
    Scene s = scene(9, "THE TAPE is empty then").fed("takes 1" + REST).is("text()", 1).is("count(5)", 0)
        .still("text()", -100).is("count(4)", 2);
    s.read("takes", -105).is("count(5)", 0).is("feed(32)", 1).is("text()", -101);
  }

  private static void longestText() {
    String sum = "takes 1" + times("+1", 68) + REST;
    scene(9, "a TEXT of 160 bytes").read(sum, 1).first("man(0)", "maid(1, 0)", "force(1)").is("told(0, 0, 3)", 0);
    String turned = "takes 1-1" + times("+0", 67) + REST;
    scene(9, "a TEXT of 160 bytes").read(turned, 1).first("man(0)", "maid(1, 0)", "force(1)").is("told(0, 0, 3)", 1);
    DUE.is("promise 9, these are 160 bytes", sum.length() + turned.length(), 320);
    String late = "takes 1" + times(" ", 136) + REST;
    scene(9, "a TEXT of 160 bytes").fed(late).refused("feed(32)", FULL).is("text()", 1);
    String cut = "takes 1" + times(" ", 137) + REST;
    scene(9, "a text that ends too early at 160").fed(cut).is("text()", -260);
    String worth = "takes 1;worth 0" + times("+1", 67) + ";wants 1;";
    scene(9, "a TEXT of 158 bytes").read(worth, 1).first("man(0)", "maid(1, 0)", "force(1)").is("told(0, 0, 4)", 67);
  }

  private static void textsToFull() {
    Scene s = scene(9, "6 TEXTS at most, TEXT 0 with them").first("man(0)", "maid(1, 0)");
    for (int text = 1; text <= 5; text++) {
      s.read("takes 1;worth " + text + ";wants 1;", text).is("count(4)", text + 1);
    }
    s.refused("text()", FULL);
    s.fed("takes 1;worth 6;wants 1;").refused("text()", FULL).is("count(5)", 24).is("count(4)", 6);
    for (int text = 1; text <= 5; text++) {
      s.first("force(" + text + ")").is("told(0, 0, 4)", text);
    }
    s.refused("force(6)", BAD);
    Scene faulty = scene(9, "FULL: no TEXT more has room (THE TAPE stays)");
    for (int text = 1; text <= 5; text++) {
      faulty.read("takes 1" + REST, text);
    }
    faulty.fed("takes").refused("text()", FULL).is("count(5)", 5);
  }

  private static void faultKeepsTexts() {
    rich(9, "-100 less the place of its FAULT: no TEXT comes").is("count(4)", 2).is("count(5)", 15)
        .is("text()", -115).is("count(4)", 2).is("count(5)", 0).is("count(6)", 1)
        .read("takes 1" + REST, 2).is("count(6)", 1);
  }

  /** What stood behind its end in an earlier text is none of it. */
  private static void shorterBehindLonger() {
    String[] ahead = {"takes 1;worth 1;wants not 1;", "takes 1;worth 1;wants-1;", "takes 1;worth 1;wants not 1"};
    for (String longer : ahead) {
      Scene s = scene(9, "a TEXT ends at its last ;").first("man(0)", "maid(1, 0)").fed(longer).first("text()");
      s.fed("takes 1;worth 1;wants month;").first("text()", "force(1)", "force(2)", "set(2, 0, 0)");
      s.is("told(0, 0, 5)", 0).first("set(2, 0, 1)").is("told(0, 0, 5)", 1);
    }
  }

  private static void fault(String words, String text, int place) {
    scene(9, "FAULT: " + words).read(text, -100 - place).is("count(5)", 0).is("count(4)", 1);
  }

  private static void stands(String words, String text) {
    scene(9, words).read(text, 1).is("count(5)", 0).is("count(4)", 2);
  }

  private static void endsTooEarly() {
    String[] tokens = ("takes not ( - 1 ) < 2 or like = hers and 3 ; worth noes + month - man * maid ;"
        + " wants not not 1 ;").split(" ");
    String words = "the text's size, if it ends too early";
    StringBuilder text = new StringBuilder();
    for (String token : tokens) {
      fault(words, text.toString(), text.length());
      fault(words, text + " \n ", text.length() + 3);
      text.append(' ').append(token);
    }
    stands(words, text.toString());
    stands(words, text + " \n ");
  }

  private static void nothingBehind() {
    String whole = "takes 1" + REST;
    for (String token : "takes worth wants or and not like 1 ( ) ; + - * < = x 12345 @".split(" ")) {
      fault("a TOKEN behind the last ;", whole + token, 24);
      fault("a TOKEN behind the last ;", whole + "  " + token + " ;", 26);
    }
  }

  /** Each byte behind 'takes 1 ': what may stand there lets the text end too early behind it. */
  private static void everyByte() {
    for (int letter = 0; letter < 256; letter++) {
      boolean stands = " \n;+-*<=".indexOf(letter) >= 0;
      fault("a byte that begins none", "takes 1 " + (char) letter, stands ? 9 : 8);
      boolean begins = " \n(-0123456789".indexOf(letter) >= 0;
      fault("a byte that begins none", "takes " + (char) letter, begins ? 7 : 6);
      boolean blank = letter == 32 || letter == 10;
      fault("a byte that begins none", "" + (char) letter, blank ? 1 : 0);
    }
  }

  /** Each byte right behind a WORD or a NUMBER, with which one TOKEN ends or goes on. */
  private static void everyByteBehind() {
    for (int letter = 0; letter < 256; letter++) {
      boolean stands = " \n;+-*<=".indexOf(letter) >= 0;
      boolean goesOn = letter >= 'a' && letter <= 'z';
      fault("WORDS (a .. z), each as long as can be", "takes like" + (char) letter, stands ? 11 : goesOn ? 6 : 10);
      boolean digit = letter >= '0' && letter <= '9';
      fault("NUMBERS (digits), each as long as can be", "takes 123" + (char) letter, stands || digit ? 10 : 9);
      fault("NUMBERS (digits, 4 at most)", "takes 1234" + (char) letter, stands ? 11 : digit ? 6 : 10);
    }
  }

  private static void blanks() {
    stands("blanks (32, 10) may stand between", "\n takes \n1 \n; worth\n\n1 ;wants 1\n; \n");
    stands("blanks may stand between: none need", "takes(1)or(1)and(not(1))" + REST);
    fault("blanks (32, 10): no others", "takes\t1" + REST, 5);
    fault("blanks (32, 10): no others", "takes\r1" + REST, 5);
    fault("blanks end a TOKEN", "ta kes 1" + REST, 0);
    fault("blanks end a TOKEN", "takes 1 2" + REST, 8);
    fault("blanks end a TOKEN", "takes 1 a nd 1" + REST, 8);
  }

  private static void wordsAsLongAsCanBe() {
    stands("each as long as can be", "takes1or 1and 1" + REST);
    fault("each as long as can be", "takeslike" + REST, 0);
    fault("each as long as can be", "takes noesor 1" + REST, 6);
    fault("each as long as can be", "takes 1 orlike" + REST, 8);
    for (String word : "like hers noes month man maid".split(" ")) {
      stands("NAMES are", "takes " + word + REST);
      fault("a WORD that is neither KEY nor NAME", "takes " + word + "s" + REST, 6);
      fault("a WORD that is neither KEY nor NAME", "takes " + word.substring(1) + REST, 6);
      fault("a WORD that is neither KEY nor NAME", "takes x" + word + REST, 6);
      fault("a NAME that can't stand there", word + " 1" + REST, 0);
      fault("a NAME that can't stand there", "takes 1 " + word + REST, 8);
    }
    for (String key : "takes worth wants or and".split(" ")) {
      fault("a KEY that can't stand there", "takes " + key + REST, 6);
      fault("a KEY that can't stand there", "takes ( " + key + REST, 8);
      fault("a KEY that can't stand there", "takes 1 + " + key + REST, 10);
    }
    fault("a KEY that can't stand there", "takes 1 not 1" + REST, 8);
    fault("a KEY that can't stand there", "takes 1 + not 1" + REST, 10);
    fault("a KEY that can't stand there", "takes - not 1" + REST, 8);
    fault("takes, worth, wants in their order", "worth 1;takes 1;wants 1;", 0);
    fault("takes, worth, wants in their order", "takes 1;wants 1;worth 1;", 8);
    fault("takes, worth, wants in their order", "takes 1;worth 1;worth 1;", 16);
    fault("the first of two", "takes x 12345", 6);
    fault("the first of two", "takes 12345 x", 6);
  }

  /** Each letter of each WORD, but another one, and the WORD without it. */
  private static void wordsSpelt() {
    spelt("takes", "% 1;worth 1;wants 1;");
    spelt("worth", "takes 1;% 1;wants 1;");
    spelt("wants", "takes 1;worth 1;% 1;");
    spelt("or", "takes 1 % 1;worth 1;wants 1;");
    spelt("and", "takes 1 % 1;worth 1;wants 1;");
    spelt("not", "takes % 1;worth 1;wants 1;");
    spelt("not", "takes (% 1);worth 1;wants 1;");
    for (String name : "like hers noes month man maid".split(" ")) {
      spelt(name, "takes %;worth 1;wants 1;");
      spelt(name, "takes (%);worth 1;wants 1;");
      spelt(name, "takes -%;worth 1;wants 1;");
      spelt(name, "takes not %;worth 1;wants 1;");
    }
  }

  private static void spelt(String word, String text) {
    int at = text.indexOf('%');
    stands("NAMES and KEYS are", text.replace("%", word));
    for (int i = 0; i < word.length(); i++) {
      char other = (char) (word.charAt(i) + 1);
      String wrong = word.substring(0, i) + other + word.substring(i + 1);
      fault("a WORD that is neither KEY nor NAME", text.replace("%", wrong), at);
      String less = word.substring(0, i) + word.substring(i + 1);
      fault("a WORD that is neither KEY nor NAME", text.replace("%", less), at);
    }
  }

  private static void numbersOf4Digits() {
    for (String number : new String[] {"0", "9", "9999", "0000", "0009"}) {
      stands("NUMBERS (digits, 4 at most)", "takes " + number + REST);
    }
    for (String number : new String[] {"10000", "00000", "99999", "00009", times("1", 8), times("9", 100)}) {
      fault("a NUMBER that is too long", "takes " + number + REST, 6);
      fault("a NUMBER that is too long", "takes 1 + " + number, 10);
      fault("a NUMBER that is too long", number, 0);
    }
    fault("a NUMBER that is too long", "takes 4294967297" + REST, 6);
  }

  private static void fiveOpen() {
    String words = "a ( , a not, a - ahead of a ONE while 5 of these are open";
    stands(words, "takes " + times("(", 5) + "1" + times(")", 5) + REST);
    fault(words, "takes " + times("(", 6) + "1" + times(")", 6) + REST, 11);
    stands(words, "takes " + times("-", 5) + "1" + REST);
    fault(words, "takes " + times("-", 6) + "1" + REST, 11);
    stands(words, "takes " + times("not ", 5) + "1" + REST);
    fault(words, "takes " + times("not ", 6) + "1" + REST, 26);
    String five = "not(not(-";
    stands(words, "takes " + five + "1))" + REST);
    fault(words, "takes " + five + "(1)))" + REST, 15);
    fault(words, "takes " + five + "-1))" + REST, 15);
    fault(words, "takes (not(not(not 1)))" + REST, 15);
    stands(words, "takes (not(not(1)))" + REST);
    fault(words, "takes ((((((", 11);
    fault(words, "takes (((((", 11);
    fault(words, "takes (((((x", 11);
    for (String part : new String[] {"takes 1;worth %;wants 1;", "takes 1;worth 1;wants %;"}) {
      int at = part.indexOf('%');
      stands(words, part.replace("%", "(((((1)))))"));
      fault(words, part.replace("%", "((((((1))))))"), at + 5);
    }
    stands("each part begins with none open", "takes (((((1)))));worth (((((1)))));wants -----1;");
  }

  private static void openTillTheyEnd() {
    String words = "a ( till its ) , not and - till what they belong to ends";
    stands(words, "takes (((((1)))))+(((((1)))))" + REST);
    stands(words, "takes (((((1))))+(1))" + REST);
    stands(words, "takes ((((-1*(1)))))" + REST);
    fault(words, "takes ((((-(1)))))" + REST, 11);
    stands(words, "takes -----1------1" + REST);
    fault(words, "takes -----1-------1" + REST, 18);
    stands(words, "takes (((((1-1)))))" + REST);
    fault(words, "takes (((((1--1)))))" + REST, 13);
    stands(words, "takes not not not not not 1 and not not not not not 1" + REST);
    stands(words, "takes not not not not not 1 or(((((1)))))" + REST);
    fault(words, "takes not not not not not 1<(1)" + REST, 28);
    fault(words, "takes not not not not not 1+(1)" + REST, 28);
    fault(words, "takes not not not not not 1*-1" + REST, 28);
    stands(words, "takes not not not not 1<(1)" + REST);
    stands(words, "takes not not not not 1<-1" + REST);
    stands(words, "takes -(-(-1))*(((((1)))))" + REST);
    fault("a ) without its (", "takes 1)" + REST, 7);
    fault("a ) without its (", "takes ((1)))" + REST, 11);
    fault("a ( without its )", "takes ((1)" + REST, 10);
    fault("an empty ( )", "takes ()" + REST, 7);
  }

  private static void compareOnce() {
    stands("perhaps < or = and a SUM", "takes 1<2 or 1=2 and 2<1" + REST);
    fault("perhaps < or = and a SUM", "takes 1<2<3" + REST, 9);
    fault("perhaps < or = and a SUM", "takes 1<2=3" + REST, 9);
    fault("perhaps < or = and a SUM", "takes 1=2<3" + REST, 9);
    fault("perhaps < or = and a SUM", "takes not 1=2=3" + REST, 13);
    fault("perhaps < or = and a SUM", "takes 1<not 2" + REST, 8);
    stands("perhaps < or = and a SUM", "takes (1<2)<3" + REST);
    stands("perhaps < or = and a SUM", "takes 1<(2<3)" + REST);
  }

  /** What an E is, told by worth, which is 7 if it is so. */
  private static void value(String words, String e, boolean yes) {
    scene(9, words).read("takes 1;worth 7*(" + e + ");wants 1;", 1)
        .first("man(2)", "maid(1, 0)", "force(1)").is("told(0, 0, 4)", yes ? 7 : 0);
  }

  private static void wrapping() {
    String words = "An E is an int (32 bits, wrapping)";
    value(words, "0<8192*8192*32-1", true);
    value(words, "8192*8192*32<0", true);
    value(words, "8192*8192*32-1+1<0", true);
    value(words, "0<8192*8192*32-1-0", true);
    value(words, "0<-(8192*8192*32)", false);
    value(words, "-(8192*8192*32)=8192*8192*32", true);
    value(words, "8192*8192*64=0", true);
    value(words, "8192*8192*63<0", true);
    value(words, "8192*8192*32<8192*8192*32-1", true);
    value(words, "-8192*8192*32=8192*8192*32", true);
    value(words, "0<-8192*8192*32-1", true);
    value(words, "9999*9999*9999<0", true);
    value(words, "9999*9999*30<0", true);
  }

  private static void oneOrZero() {
    String words = "of or, and, not, <, = 1 or 0 (what is not 0 is true)";
    value(words, "(5 or 0)=1", true);
    value(words, "(0 or-5)=1", true);
    value(words, "(0 or 0)=0", true);
    value(words, "(5 and-5)=1", true);
    value(words, "(5 and 0)=0", true);
    value(words, "(0 and 5)=0", true);
    value(words, "(not-5)=0", true);
    value(words, "(not 0)=1", true);
    value(words, "(1<2)=1", true);
    value(words, "(2<2)=0", true);
    value(words, "(2=2)=1", true);
    value(words, "(2=1)=0", true);
    value(words, "(8192*8192*32 and 1)=1", true);
    value(words, "(8192*8192*64 or 0)=0", true);
    value(words, "(5)=5", true);
  }

  // ---- promise 10

  private static void whichText() {
    scene(10, "A TEXT is THE RULE: which was. BAD").outside("force(%)", 0, 0, BAD).is("force(0)", 0)
        .read("takes 1" + REST, 1).outside("force(%)", 0, 1, BAD).is("force(1)", 0).is("count(6)", 1)
        .outside("force(%)", 0, 1, BAD).is("force(1)", 1).is("force(0)", 1).is("count(6)", 0);
    Scene s = scene(10, "6 TEXTS at most: BAD");
    for (int text = 1; text <= 5; text++) {
      s.read("takes 1" + REST, text);
    }
    s.outside("force(%)", 0, 5, BAD).is("force(5)", 0).outside("force(%)", 0, 5, BAD).is("force(0)", 5);
    rich(10, "BAD").outside("force(%)", 0, 1, BAD).is("force(0)", 1);
  }
}
