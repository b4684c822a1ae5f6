/** The bounds of promises 11 to 15, a scene for each sentence that names one. */
public final class AskingsBoundsTest {
  private static final int BAD = RefusedMayAsk.BAD, STATE = RefusedMayAsk.STATE;
  private static final int NONE = RefusedMayAsk.NONE;
  private static final Due DUE = new Due();

  public static void main(String[] args) {
    askedOfWhom();
    askedTooSoon();
    askedWhoIsMarried();
    noes9AtMost();
    month99AtMost();
    takenAtTheBounds();
    partedOfWhom();
    partedWhoIsNot();
    wayOfWhom();
    wayOfNone();
    wayOfThree();
    wayTooLong();
    wayThereIsNone();
    wayWithoutHer();
    wayByMonths();
    wayOfLikeOnes();
    mistakeOfWhom();
    mistakeNone();
    mistakeAtTheBounds();
    sureOfWhom();
    sureUpTo9();
    sureNoneAndAll();
    DUE.end();
  }

  private static Scene scene(int promise, String sentence) {
    return new Scene(DUE, promise, sentence);
  }

  private static Scene rich(int promise, String sentence) {
    return Scene.rich(DUE, promise, sentence);
  }

  // ---- promise 11

  private static void askedOfWhom() {
    scene(11, "BAD").first("man(9)", "man(9)", "man(9)", "man(9)")
        .first("maid(1, 0)", "maid(1, 0)", "maid(1, 0)", "maid(4, 0)")
        .outside("ask(%, 0)", 0, 3, BAD).outside("ask(0, %)", 0, 3, BAD)
        .is("ask(3, 3)", 0).is("ask(3, 0)", 1).is("ask(0, 3)", 0);
    rich(11, "BAD").outside("ask(%, 1)", 0, 2, BAD).outside("ask(1, %)", 0, 2, BAD);
    scene(11, "BAD: nobody is there").first("man(0)").refused("ask(0, 0)", BAD);
    scene(11, "BAD: nobody is there").first("maid(1, 0)").refused("ask(0, 0)", BAD);
    scene(11, "BAD; STATE: the first that is named").first("man(0)", "maid(0, 0)")
        .refused("ask(0, 0)", STATE).refused("ask(0, 1)", BAD).refused("ask(1, 0)", BAD);
  }

  private static void askedTooSoon() {
    int[][] needs = {{0, 0, 1}, {2, 0, 1}, {2, 1, 2}, {2, 2, 3}, {3, 0, 2}, {3, 1, 3}, {3, 2, 4}, {5, 1, 1}};
    for (int[] n : needs) {
      scene(11, "STATE: as many NOES as she NEEDS, or more").first("man(" + (n[2] - 1) + ")")
          .first("maid(" + n[0] + ", " + n[1] + ")", "likes(0, 0, 1, 10)").refused("ask(0, 0)", STATE)
          .first("set(0, 0, " + n[2] + ")").is("ask(0, 0)", n[0] == 5 ? 1 : 0).is("count(3)", 1);
    }
    for (String maid : new String[] {"maid(1, 9)", "maid(4, 9)", "maid(5, 8)"}) {
      scene(11, "who NEEDS 0").first("man(0)", maid).is("ask(0, 0)", maid.equals("maid(4, 9)") ? 0 : 1);
    }
    rich(11, "STATE").first("likes(2, 1, 1, 99)").refused("ask(2, 1)", STATE);
  }

  private static void askedWhoIsMarried() {
    scene(11, "STATE: if neither is MARRIED").first("man(9)", "man(9)", "maid(1, 0)", "maid(1, 0)")
        .is("ask(0, 0)", 1).refused("ask(0, 0)", STATE).refused("ask(0, 1)", STATE).refused("ask(1, 0)", STATE)
        .is("ask(1, 1)", 1).is("count(3)", 2).is("count(2)", 2);
    rich(11, "STATE: if neither is MARRIED").refused("ask(0, 0)", STATE).refused("ask(0, 2)", STATE)
        .refused("ask(1, 0)", STATE);
  }

  private static void noes9AtMost() {
    scene(11, "his NOES are 1 more (9 at most)").first("man(8)", "maid(4, 0)").is("ask(0, 0)", 0)
        .is("of(0, 5)", 9).is("ask(0, 0)", 0).is("of(0, 5)", 9).is("ask(0, 0)", 0).is("of(0, 5)", 9)
        .is("count(3)", 3);
    scene(11, "his NOES are 1 more").first("man(0)", "man(0)", "maid(4, 0)").is("ask(1, 0)", 0)
        .is("of(1, 5)", 1).is("of(0, 5)", 0);
    scene(11, "his NOES stay, if they are MARRIED").first("man(8)", "maid(1, 0)").is("ask(0, 0)", 1)
        .is("of(0, 5)", 8);
  }

  private static void month99AtMost() {
    scene(11, "then THE MONTH is 1 more (99 at most)").first("man(0)", "maid(4, 0)", "maid(1, 0)", "set(2, 0, 98)")
        .is("ask(0, 0)", 0).is("count(3)", 99).is("ask(0, 0)", 0).is("count(3)", 99)
        .is("ask(0, 1)", 1).is("count(3)", 99);
    scene(11, "then THE MONTH is 1 more").first("man(0)", "maid(1, 0)").is("ask(0, 0)", 1).is("count(3)", 1);
    scene(11, "then THE MONTH is 1 more: she answers ahead of it").first("man(0)", "maid(1, 0)")
        .read("takes month;worth 1;wants 1;", 1).first("force(1)").is("ask(0, 0)", 0).is("ask(0, 0)", 1);
  }

  private static void takenAtTheBounds() {
    scene(11, "1 she takes him, 0 she refuses: s is below 50").first("man(1)", "maid(0, 0)", "likes(0, 0, 1, 49)")
        .is("ask(0, 0)", 0).is("of(0, 6)", NONE).first("likes(0, 0, 1, 50)").is("ask(0, 0)", 1)
        .is("of(0, 6)", 0).is("of(0, 4)", 0);
    scene(11, "SAYS NO, if takes doesn't tell it").first("man(0)", "maid(1, 0)")
        .read("takes noes-1;worth 1;wants 1;", 1).first("force(1)", "set(0, 0, 1)").is("ask(0, 0)", 0)
        .is("of(0, 5)", 2).is("ask(0, 0)", 1);
  }

  // ---- promise 12

  private static void partedOfWhom() {
    scene(12, "BAD").first("man(0)", "man(0)", "man(0)", "man(0)", "maid(1, 0)", "ask(3, 0)")
        .outside("part(%)", 0, 3, BAD).is("part(3)", 0);
    rich(12, "BAD; STATE: the first that is named").outside("part(%)", 0, 2, BAD).is("part(0)", 0);
  }

  private static void partedWhoIsNot() {
    scene(12, "STATE: he isn't").first("man(2)", "man(3)", "maid(4, 0)", "maid(1, 0)").refused("part(0)", STATE)
        .first("ask(0, 0)").refused("part(0)", STATE).first("ask(1, 1)").refused("part(0)", STATE)
        .is("part(1)", 1).refused("part(1)", STATE).is("of(1, 6)", NONE).is("of(1, 4)", NONE)
        .is("of(1, 5)", 3).is("of(0, 5)", 3).is("count(3)", 2).is("count(2)", 0);
    rich(12, "STATE: he isn't").refused("part(1)", STATE).refused("part(2)", STATE);
    scene(12, "MAID 0 and no MAID are not the same").first("man(0)", "maid(1, 0)", "ask(0, 0)").is("part(0)", 0);
  }

  // ---- promise 13

  private static void wayOfWhom() {
    Scene s = scene(13, "sort 0, 1, what 0 .. 5: BAD").first("man(0)", "man(0)", "man(0)", "man(9)")
        .first("maid(0, 0)", "maid(0, 0)", "maid(0, 0)", "maid(4, 0)");
    s.outside("way(%, 0, 0, 0)", 0, 3, BAD).outside("way(0, %, 0, 0)", 0, 3, BAD)
        .outside("way(0, 0, %, 0)", 0, 1, BAD).outside("way(0, 0, 0, %)", 0, 5, BAD)
        .outside("way(0, 0, 1, %)", 0, 5, BAD);
    s.still("way(3, 3, 1, 0)", 0).still("way(0, 0, 1, 5)", NONE);
    rich(13, "BAD").outside("way(%, 0, 0, 0)", 0, 2, BAD).outside("way(0, %, 0, 0)", 0, 2, BAD)
        .outside("way(0, 0, %, 0)", 0, 1, BAD).outside("way(0, 0, 0, %)", 0, 5, BAD);
    rich(13, "BAD; NONE: the first that is named").still("way(0, 0, 0, 0)", NONE).refused("way(0, 0, 2, 0)", BAD)
        .refused("way(0, 0, 0, 6)", BAD);
  }

  private static void way(Scene s, int man, int maid, int sort, int... want) {
    for (int what = 0; what < 6; what++) {
      s.still("way(" + man + ", " + maid + ", " + sort + ", " + what + ")", what < want.length ? want[what] : NONE);
    }
  }

  private static void wayOfNone() {
    Scene s = scene(13, "at once: a row of none").first("man(1)", "maid(0, 0)", "maid(4, 0)");
    way(s, 0, 0, 0, 0, 0);
    way(s, 0, 0, 1, 0, 0);
    s.first("set(0, 0, 0)");
    way(s, 0, 0, 0, 1, 0, 1);
    way(s, 0, 1, 0, 0, 0);
  }

  private static void wayOfThree() {
    Scene s = scene(13, "the MAID asked as number what less 2 (2 .. 5; NONE)").first("man(1)")
        .first("maid(3, 2)", "maid(0, 9)", "maid(0, 8)", "maid(4, 7)", "likes(0, 1, 1, 0)", "likes(0, 2, 1, 0)");
    way(s, 0, 0, 0, 3, 17, 1, 2, 3);
    way(s, 0, 0, 1, 3, 17, 1, 2, 3);
    s.first("set(0, 0, 2)");
    way(s, 0, 0, 0, 2, 17, 1, 2);
    way(s, 0, 0, 1, 2, 8, 2, 3);
    s.first("set(0, 0, 3)");
    way(s, 0, 0, 0, 1, 9, 1);
    way(s, 0, 0, 1, 1, 0, 3);
    s.first("set(0, 0, 4)");
    way(s, 0, 0, 0, 0, 0);
  }

  private static void wayTooLong() {
    Scene s = scene(13, "each once: NONE, if all others are too few").first("man(0)")
        .first("maid(3, 2)", "maid(4, 0)", "maid(4, 0)", "maid(4, 0)");
    way(s, 0, 0, 0);
    way(s, 0, 0, 1);
    s.first("set(0, 0, 1)");
    way(s, 0, 0, 0, 3, 0, 1, 2, 3);
  }

  private static void wayThereIsNone() {
    Scene alone = scene(13, "NONE: there is no such row").first("man(0)", "maid(0, 0)");
    way(alone, 0, 0, 0);
    Scene taken = scene(13, "NONE: each of whom SAYS NO").first("man(0)", "maid(0, 0)", "maid(1, 0)");
    way(taken, 0, 0, 0);
    way(taken, 0, 0, 1);
    Scene late = scene(13, "NONE: each of whom he MAY ASK")
        .first("man(0)", "maid(0, 0)", "maid(0, 0)", "likes(0, 1, 1, 0)");
    way(late, 0, 0, 0);
    Scene his = scene(13, "NONE: he is MARRIED").first("man(9)", "man(9)", "maid(1, 0)", "maid(4, 0)", "ask(0, 0)");
    way(his, 0, 1, 0);
    way(his, 0, 0, 0);
    way(his, 1, 0, 0);
    way(his, 1, 1, 0, 0, 0);
  }

  private static void wayWithoutHer() {
    Scene s = scene(13, "each once, without her").first("man(0)", "maid(2, 0)", "maid(4, 0)");
    s.first("likes(0, 0, 1, 0)");
    way(s, 0, 0, 0, 1, 0, 1);
    s.first("set(1, 0, 1)");
    way(s, 0, 0, 0);
  }

  private static void wayByMonths() {
    Scene s = scene(13, "by ASKINGS: THE MONTH is 1 more (99 at most)").first("man(0)")
        .first("maid(2, 1)", "maid(1, 0)", "maid(1, 1)").read("takes not month=99;worth 1;wants 1;", 1)
        .first("force(1)", "set(2, 0, 99)");
    way(s, 0, 0, 0, 2, 11, 1, 2);
    s.first("set(2, 0, 98)");
    way(s, 0, 0, 0);
    Scene t = scene(13, "by ASKINGS: his NOES are 1 more").first("man(0)", "maid(2, 1)", "maid(5, 0)", "maid(4, 0)");
    way(t, 0, 0, 0, 2, 1, 2, 1);
  }

  private static void wayOfLikeOnes() {
    Scene s = scene(13, "a row comes ahead of those that begin with it").first("man(1)", "maid(4, 0)", "maid(4, 0)")
        .first("maid(2, 1)", "maid(4, 0)");
    way(s, 0, 2, 0, 1, 0, 0);
    way(s, 0, 2, 1, 1, 0, 0);
    Scene t = scene(13, "else by the first MAID in which they differ").first("man(0)", "maid(0, 3)", "maid(0, 3)")
        .first("maid(2, 2)", "maid(4, 0)", "likes(0, 0, 1, 0)", "likes(0, 1, 1, 0)");
    way(t, 0, 2, 0, 3, 6, 3, 0, 1);
    way(t, 0, 2, 1, 3, 6, 3, 0, 1);
    Scene cheap = scene(13, "that of least PRICES of all asked together").first("man(0)", "maid(0, 0)")
        .first("maid(1, 9)", "maid(4, 0)", "maid(1, 1)", "likes(0, 1, 1, 0)", "likes(0, 3, 1, 0)");
    way(cheap, 0, 0, 0, 1, 14, 1);
    way(cheap, 0, 0, 1, 1, 0, 2);
  }

  // ---- promise 14

  private static void mistakeOfWhom() {
    scene(14, "BAD").first("man(0)", "man(0)", "man(0)", "man(0)", "maid(1, 0)")
        .outside("mistake(%)", 0, 3, BAD).still("mistake(3)", 0);
    rich(14, "BAD").outside("mistake(%)", 0, 2, BAD).still("mistake(1)", 1);
  }

  private static void mistakeNone() {
    scene(14, "NONE: there is no MAID").first("man(0)").still("mistake(0)", NONE);
    scene(14, "NONE: whom he MAY ASK").first("man(0)", "maid(0, 0)").still("mistake(0)", NONE)
        .first("set(0, 0, 1)").still("mistake(0)", 0);
    scene(14, "NONE: who don't SAY NO").first("man(1)", "maid(0, 0)", "likes(0, 0, 1, 49)")
        .still("mistake(0)", NONE).first("likes(0, 0, 1, 50)").still("mistake(0)", 0);
    scene(14, "NONE: he is MARRIED").first("man(1)", "man(1)", "maid(1, 0)", "maid(0, 0)", "ask(0, 0)")
        .still("mistake(0)", NONE).still("mistake(1)", 1);
    rich(14, "NONE").still("mistake(0)", NONE).still("mistake(2)", NONE);
  }

  private static void mistakeAtTheBounds() {
    scene(14, "the one he likes least; of like ones the first").first("man(0)")
        .first("maid(1, 0)", "maid(1, 0)", "maid(1, 0)", "maid(1, 0)").still("mistake(0)", 0)
        .first("likes(0, 3, 0, 49)").still("mistake(0)", 3).first("likes(0, 1, 0, 49)").still("mistake(0)", 1)
        .first("likes(0, 2, 0, 0)").still("mistake(0)", 2).first("likes(0, 0, 0, 0)").still("mistake(0)", 0)
        .first("likes(0, 0, 0, 99)", "likes(0, 1, 0, 99)", "likes(0, 2, 0, 99)", "likes(0, 3, 0, 99)")
        .still("mistake(0)", 0).first("likes(0, 3, 0, 98)").still("mistake(0)", 3);
  }

  // ---- promise 15

  private static void sureOfWhom() {
    scene(15, "BAD").first("man(0)", "man(0)", "man(0)", "man(0)", "maid(4, 0)")
        .outside("sure(%)", 0, 3, BAD).still("sure(3)", 1);
    rich(15, "BAD").outside("sure(%)", 0, 2, BAD).still("sure(2)", 4).still("sure(0)", 0);
  }

  private static void sureUpTo9() {
    for (int noes = 0; noes <= 9; noes++) {
      Scene s = scene(15, "by each number of NOES from his up to 9: takes by " + noes).first("man(0)", "maid(1, 0)");
      s.read("takes noes=" + noes + ";worth 1;wants 1;", 1).first("force(1)");
      for (int his = 0; his <= 9; his++) {
        s.first("set(0, 0, " + his + ")").still("sure(0)", his > noes ? 1 : 0);
      }
    }
    scene(15, "up to 9, not above").first("man(9)", "maid(1, 0)").read("takes 9<noes;worth 1;wants 1;", 1)
        .first("force(1)").still("sure(0)", 1).first("set(0, 0, 0)").still("sure(0)", 1);
    Scene proud = scene(15, "a PROUD, if k is above 2").first("man(2)", "maid(2, 0)");
    proud.still("sure(0)", 0).first("set(0, 0, 3)").still("sure(0)", 1);
    Scene flirt = scene(15, "a FLIRT, by 9 alone").first("man(9)", "maid(5, 0)");
    flirt.still("sure(0)", 1).first("set(0, 0, 8)").still("sure(0)", 0).first("set(0, 0, 7)").still("sure(0)", 0);
    flirt.first("set(0, 0, 9)", "set(1, 0, 1)").still("sure(0)", 0);
  }

  private static void sureNoneAndAll() {
    scene(15, "MAIDS (bits): none").first("man(0)").still("sure(0)", 0).first("maid(1, 0)").still("sure(0)", 0);
    scene(15, "MAIDS (bits): all").first("man(0)", "maid(4, 0)", "maid(4, 0)", "maid(4, 0)", "maid(4, 0)")
        .still("sure(0)", 15);
    scene(15, "whom he MAY ASK").first("man(0)", "man(0)", "maid(0, 0)", "maid(1, 0)", "maid(4, 0)")
        .first("likes(0, 0, 1, 0)").still("sure(0)", 4).first("set(0, 0, 1)").still("sure(0)", 5)
        .first("ask(1, 1)").still("sure(0)", 5).still("sure(1)", 0);
    scene(15, "whom he MAY ASK: she is MARRIED").first("man(0)", "man(0)", "maid(1, 9)", "likes(0, 0, 1, 0)")
        .still("sure(0)", 1).first("ask(1, 0)").still("sure(0)", 0);
  }
}
