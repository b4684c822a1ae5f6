/** The bounds of promises 16 to 22, a scene for each sentence that names one. */
public final class PairingsBoundsTest {
  private static final int BAD = RefusedMayAsk.BAD, NONE = RefusedMayAsk.NONE;
  private static final int NOTHING = -11;
  private static final long NO = RefusedMayAsk.NO;
  private static final Due DUE = new Due();

  public static void main(String[] args) {
    sortsOfPairings();
    fewestAndMostRows();
    lawfulAtTheBound();
    steadyAtTheBound();
    likedMinusOne();
    sortsAndMenOfBest();
    bestOfNobody();
    contentAtItsBounds();
    bestOfLikeOnes();
    rowRefused();
    rowItems();
    rowOfNobody();
    rowRanks();
    yearRefused();
    roundsOfYears();
    menOfYears();
    yearBounds();
    judgeRefused();
    judgeSizes();
    judgeItems();
    judgeMayNotAsk();
    judgeBounds();
    drawnByAnySeed();
    drawnAtTheBounds();
    chanceRefused();
    chanceOfSeeds();
    DUE.end();
  }

  private static Scene scene(int promise, String sentence) {
    return new Scene(DUE, promise, sentence);
  }

  private static Scene rich(int promise, String sentence) {
    return Scene.rich(DUE, promise, sentence);
  }

  /** MEN without NOES, and PLAIN maids of NUMBER 0, who refuse nobody. */
  private static Scene town(int promise, String sentence, int men, int maids) {
    Scene s = scene(promise, sentence);
    for (int man = 0; man < men; man++) {
      s.first("man(0)");
    }
    for (int maid = 0; maid < maids; maid++) {
      s.first("maid(1, 0)");
    }
    return s;
  }

  // ---- promise 16

  private static void sortsOfPairings() {
    town(16, "LAWFUL (sort 0), STEADY (1). BAD", 2, 2).outside("pairings(%)", 0, 1, BAD)
        .still("pairings(0)", 7).still("pairings(1)", 2);
    rich(16, "LAWFUL (sort 0), STEADY (1). BAD").outside("pairings(%)", 0, 1, BAD);
  }

  private static void fewestAndMostRows() {
    int[][] lawful = {{1, 1, 1, 1, 1}, {1, 2, 3, 4, 5}, {1, 3, 7, 13, 21}, {1, 4, 13, 34, 73}, {1, 5, 21, 73, 209}};
    int[][] steady = {{1, 1, 1, 1, 1}, {1, 1, 2, 3, 4}, {1, 2, 2, 6, 12}, {1, 3, 6, 6, 24}, {1, 4, 12, 24, 24}};
    for (int men = 0; men <= 4; men++) {
      for (int maids = 0; maids <= 4; maids++) {
        town(16, "a MAID (each once at most), or none: " + men + " MEN, " + maids + " MAIDS", men, maids)
            .still("pairings(0)", lawful[men][maids]).still("pairings(1)", steady[men][maids]);
      }
    }
    Scene aunts = scene(16, "each pair of it is one in which she doesn't SAY NO").first("man(0)", "man(0)");
    aunts.first("maid(4, 0)", "maid(4, 0)").still("pairings(0)", 1).still("pairings(1)", 1);
  }

  private static void lawfulAtTheBound() {
    scene(16, "LAWFUL: s is below 50").first("man(0)", "maid(0, 0)", "likes(0, 0, 1, 49)").still("pairings(0)", 1)
        .first("likes(0, 0, 1, 50)").still("pairings(0)", 2).still("pairings(1)", 1);
    scene(16, "LAWFUL: k is above 2").first("man(2)", "maid(2, 0)").still("pairings(0)", 2)
        .first("set(0, 0, 3)").still("pairings(0)", 1);
    town(16, "Who is MARRIED doesn't matter to these", 2, 2).first("ask(0, 0)").still("pairings(0)", 7)
        .still("pairings(1)", 2).first("ask(1, 1)").still("pairings(0)", 7).still("pairings(1)", 2);
  }

  private static void steadyAtTheBound() {
    Scene s = town(16, "he likes her more than the one he has, and she him more", 2, 2);
    s.first("likes(0, 0, 0, 51)", "likes(0, 0, 1, 50)").still("pairings(1)", 2);
    s.first("likes(0, 0, 1, 51)").still("pairings(1)", 1);
    s.first("likes(0, 0, 0, 50)").still("pairings(1)", 2);
    s.first("likes(0, 0, 0, 51)", "likes(1, 0, 1, 51)").still("pairings(1)", 2);
    s.first("likes(0, 0, 1, 52)").still("pairings(1)", 1).first("likes(0, 1, 0, 51)").still("pairings(1)", 2);
  }

  private static void likedMinusOne() {
    town(16, "having none: liked -1", 1, 1).first("likes(0, 0, 0, 0)", "likes(0, 0, 1, 0)")
        .still("pairings(0)", 2).still("pairings(1)", 1).still("best(1, 0)", 0);
    town(16, "having none: liked -1", 2, 1).first("likes(0, 0, 0, 0)", "likes(0, 0, 1, 0)", "likes(1, 0, 1, 0)")
        .still("pairings(1)", 2).first("likes(1, 0, 1, 1)").still("pairings(1)", 1).still("best(1, 1)", 0);
  }

  // ---- promise 17

  private static void sortsAndMenOfBest() {
    town(17, "sort 0, 1, the MAID of a MAN: BAD", 4, 4).outside("best(%, 0)", 0, 1, BAD)
        .outside("best(%, NONE)", 0, 1, BAD).outside("best(0, %)", -1, 3, BAD).outside("best(1, %)", -1, 3, BAD)
        .still("best(0, 3)", 3).still("best(1, 3)", 3);
    rich(17, "sort 0, 1, the MAID of a MAN: BAD").outside("best(%, 0)", 0, 1, BAD)
        .outside("best(0, %)", -1, 2, BAD).outside("best(1, %)", -1, 2, BAD);
  }

  private static void bestOfNobody() {
    town(17, "no MAN", 0, 4).still("best(0, NONE)", 0).still("best(1, NONE)", 0).refused("best(0, 0)", BAD)
        .refused("best(1, 0)", BAD);
    town(17, "no MAID: (NONE)", 2, 0).still("best(0, 0)", NONE).still("best(1, 1)", NONE)
        .still("best(0, NONE)", 0).still("best(1, NONE)", 0).refused("best(0, 2)", BAD);
    scene(17, "nobody takes anybody: the row of none").first("man(0)", "maid(4, 0)").still("best(0, 0)", NONE)
        .still("best(1, 0)", NONE).still("best(0, NONE)", 0).still("best(1, NONE)", 0);
  }

  private static void contentAtItsBounds() {
    town(17, "CONTENT: worth (0 .. 99, else the bound) of all its pairs", 4, 4)
        .read("takes 1;worth 9999;wants 1;", 1).read("takes 1;worth-9999;wants 1;", 2)
        .read("takes 1;worth 200*(man=maid)-100;wants 1;", 3)
        .first("force(1)").still("best(0, NONE)", 396).still("best(1, NONE)", 396)
        .first("force(2)").still("best(0, NONE)", 0).still("best(1, NONE)", 0)
        .still("best(0, 0)", NONE).still("best(0, 3)", NONE).still("best(1, 0)", 0)
        .first("force(3)").still("best(0, NONE)", 396).still("best(0, 1)", 1).still("best(1, 3)", 3);
  }

  private static void bestOfLikeOnes() {
    town(17, "of like ones the first row (-1, ahead of 0)", 2, 1).still("best(0, 0)", NONE).still("best(0, 1)", 0)
        .still("best(1, 0)", NONE).still("best(1, 1)", 0).first("likes(0, 0, 0, 51)").still("best(0, 0)", 0)
        .still("best(0, 1)", NONE).still("best(1, 0)", 0).still("best(1, 1)", NONE);
    town(17, "of like ones the first row", 1, 2).still("best(0, 0)", 0).still("best(1, 0)", 0)
        .first("likes(0, 1, 1, 51)").still("best(0, 0)", 1).still("best(1, 0)", 1);
  }

  // ---- promise 18

  private static void rowRefused() {
    town(18, "BAD: SHEET; -11; BAD: its size", 2, 2).outside("row(%)", 0, 3, BAD).refused("row(0)", NOTHING)
        .refused("row(3)", NOTHING).lay(3, 2, -1, -1).still("row(3)", 2)
        .lay(3, 2, -1).refused("row(3)", BAD).lay(3, 2, -1, -1, -1).refused("row(3)", BAD)
        .lay(3, 2).refused("row(3)", BAD).first("sheet(3, 2, 40)").refused("row(3)", BAD)
        .first("sheet(3, -1, 0)").refused("row(3)", NOTHING);
    rich(18, "BAD: SHEET; -11; BAD: its size").outside("row(%)", 0, 3, BAD).refused("row(3)", NOTHING)
        .refused("row(0)", BAD).refused("row(2)", BAD);
    town(18, "its size isn't how many MEN there are: 4", 4, 0).first("sheet(0, 0, 3)").refused("row(0)", BAD)
        .lay(0, 0, -1, -1, -1, -1).still("row(0)", 3).first("sheet(0, 0, 5)").refused("row(0)", BAD);
  }

  private static void rowItems() {
    for (int sort = 0; sort < 3; sort++) {
      Scene s = town(18, "a MAID (or -1) for each MAN: 0 no", 2, 3);
      int[][] rows = {{-1, -1, 2}, {0, 2, 3}, {2, 0, 3}, {0, 3, 0}, {3, 0, 0}, {-2, 0, 0}, {0, -2, 0}, {0, 0, 0},
          {2, 2, 0}, {-1, 2, 2}, {127, -1, 0}, {-128, -1, 0}, {-1, 4, 0}};
      for (int[] r : rows) {
        s.lay(0, sort, r[0], r[1]).still("row(0)", r[2]);
      }
    }
    Scene once = town(18, "a MAID (each once at most), or none", 4, 4);
    int[][] rows = {{0, 1, 2, 0, 0}, {0, -1, 0, -1, 0}, {3, 1, 2, 3, 0}, {-1, 2, 3, 2, 0}, {1, 0, 2, 0, 0},
        {3, 2, 1, 0, 3}, {-1, -1, -1, 0, 2}, {0, 1, 2, 2, 0}};
    for (int[] r : rows) {
      once.lay(0, 0, r[0], r[1], r[2], r[3]).still("row(0)", r[4]);
    }
    town(18, "a MAID (or -1): 0 no", 1, 4).lay(0, 2, Integer.MAX_VALUE).still("row(0)", 0)
        .lay(0, 2, Integer.MIN_VALUE).still("row(0)", 0).lay(0, 1, 32767).still("row(0)", 0)
        .lay(0, 1, -32768).still("row(0)", 0).lay(0, 2, 256).still("row(0)", 0).lay(0, 2, 32).still("row(0)", 0);
  }

  private static void rowOfNobody() {
    scene(18, "a SHEET of none, and no MEN").lay(0, 0).still("row(0)", 3).lay(0, 0, 0).refused("row(0)", BAD);
    town(18, "no MAIDS", 1, 0).lay(0, 0, -1).still("row(0)", 3).lay(0, 0, 0).still("row(0)", 0);
  }

  private static void rowRanks() {
    scene(18, "0 no, 1 yes, 2 LAWFUL, 3 STEADY").first("man(0)", "man(0)", "maid(0, 0)", "maid(0, 0)")
        .first("likes(0, 0, 1, 49)").lay(0, 0, 0, -1).still("row(0)", 1).first("likes(0, 0, 1, 50)")
        .still("row(0)", 2).lay(0, 0, 0, 1).still("row(0)", 3).first("likes(1, 0, 0, 51)", "likes(1, 0, 1, 51)")
        .still("row(0)", 2).lay(0, 0, 1, 0).still("row(0)", 3).lay(0, 0, 1, 1).still("row(0)", 0);
  }

  // ---- promise 19

  private static void yearRefused() {
    town(19, "ROUNDS (0 .. 12), what 0 .. 6: BAD", 2, 2).outside("year(%, 0)", 0, 12, BAD)
        .outside("year(%, 6)", 0, 12, BAD).outside("year(0, %)", 0, 6, BAD).outside("year(12, %)", 0, 6, BAD);
    rich(19, "ROUNDS (0 .. 12), what 0 .. 6: BAD").outside("year(%, 1)", 0, 12, BAD).outside("year(1, %)", 0, 6, BAD);
  }

  private static void roundsOfYears() {
    Scene s = scene(19, "A YEAR of n ROUNDS (0 .. 12)").first("man(0)", "man(0)", "maid(4, 0)", "maid(0, 7)");
    s.first("likes(0, 1, 1, 0)", "likes(1, 1, 1, 0)", "likes(1, 1, 0, 99)");
    for (int n = 0; n <= 12; n++) {
      s.still("year(" + n + ", 0)", 0).still("year(" + n + ", 1)", 2 * n);
      s.still("year(" + n + ", 2)", n == 0 ? 0 : 7 * (n - 1)).still("year(" + n + ", 3)", NONE);
    }
    town(19, "if there are any", 1, 1).first("likes(0, 0, 0, 30)").still("year(12, 1)", 0)
        .first("likes(0, 0, 0, 31)").still("year(12, 1)", 1).still("year(12, 0)", 1).still("year(0, 0)", 0)
        .still("year(0, 1)", 0).still("year(0, 3)", NONE).still("year(1, 3)", 0);
    scene(19, "whom they MAY ASK").first("man(0)", "maid(0, 0)").still("year(12, 1)", 0).first("set(0, 0, 1)")
        .still("year(12, 1)", 1).first("ask(0, 0)").still("year(12, 1)", 0).still("year(0, 0)", 1)
        .still("year(0, 3)", 0);
    town(19, "the one they like most (of like ones the first)", 1, 3).still("year(1, 3)", 0)
        .first("likes(0, 2, 0, 51)").still("year(1, 3)", 2).first("likes(0, 1, 0, 51)").still("year(1, 3)", 1)
        .first("likes(0, 0, 0, 99)").still("year(1, 3)", 0).first("likes(0, 2, 0, 99)").still("year(1, 3)", 0);
  }

  private static void menOfYears() {
    Scene s = town(19, "whom MAN what less 3 is MARRIED to (3 .. 6; NONE)", 3, 4);
    for (int man = 0; man < 4; man++) {
      s.still("year(1, " + (3 + man) + ")", man < 3 ? man : NONE).still("year(0, " + (3 + man) + ")", NONE);
    }
    s.first("man(0)").still("year(1, 6)", 3).still("year(1, 0)", 4).still("year(0, 6)", NONE);
    town(19, "no MEN", 0, 1).still("year(12, 0)", 0).still("year(12, 1)", 0).still("year(12, 3)", NONE);
    town(19, "no MAIDS", 1, 0).still("year(12, 0)", 0).still("year(12, 1)", 0).still("year(12, 3)", NONE);
  }

  private static void yearBounds() {
    Scene s = scene(19, "in thought: NOES 9 at most, THE MONTH 99 at most").first("man(8)", "maid(4, 0)");
    s.read("takes 1;worth 1;wants not noes=10;", 1).read("takes 1;worth 1;wants not noes=9;", 2);
    s.read("takes 1;worth 1;wants not month=100;", 3).read("takes 1;worth 1;wants not month=99;", 4);
    s.first("force(1)").still("year(12, 1)", 12).first("force(2)").still("year(12, 1)", 1);
    s.first("set(2, 0, 98)", "force(3)").still("year(12, 1)", 12).first("force(4)").still("year(12, 1)", 1);
    s.first("set(2, 0, 99)").still("year(12, 1)", 0);
  }

  // ---- promise 20

  private static void judgeRefused() {
    town(20, "BAD: SHEET, what; -11; BAD: its size", 2, 2).outside("judge(%, 0)", 0, 3, BAD)
        .outside("judge(0, %)", 0, 1, BAD).refused("judge(0, 0)", NOTHING).refused("judge(3, 1)", NOTHING)
        .first("sheet(3, 2, 1)").outside("judge(3, %)", 0, 1, BAD).refused("judge(3, 0)", BAD)
        .refused("judge(3, 1)", BAD);
    rich(20, "BAD: SHEET, what; -11; BAD: its size").outside("judge(%, 1)", 0, 3, BAD)
        .outside("judge(1, %)", 0, 1, BAD).refused("judge(3, 0)", NOTHING).refused("judge(0, 0)", BAD)
        .refused("judge(2, 1)", BAD).still("judge(1, 0)", 1).still("judge(1, 1)", 0);
  }

  private static void judgeSizes() {
    Scene s = scene(20, "BAD: its size isn't by threes").first("man(0)", "maid(4, 0)");
    for (int size = 0; size <= 40; size++) {
      s.first("sheet(0, 1, " + size + ")").still("judge(0, 0)", size % 3 == 0 ? NONE : BAD);
      s.still("judge(0, 1)", size % 3 == 0 ? 0 : BAD);
    }
    s.first("sheet(0, 1, 39)", "cell(0, 38, 2)").still("judge(0, 0)", 12).still("judge(0, 1)", 0);
    s.first("cell(0, 38, 1)").still("judge(0, 0)", NONE).still("judge(0, 1)", 1);
    s.first("cell(0, 2, 1)").still("judge(0, 0)", 1).still("judge(0, 1)", 1);
    scene(20, "a SHEET of none").lay(0, 0).still("judge(0, 0)", NONE).still("judge(0, 1)", 0);
    scene(20, "nobody is there").lay(0, 0, 0, 0, 0).still("judge(0, 0)", 0).still("judge(0, 1)", 0);
  }

  private static void story(Scene s, int first, int wrong, int... items) {
    s.lay(0, 2, items).still("judge(0, 0)", first).still("judge(0, 1)", wrong);
  }

  private static void judgeItems() {
    Scene s = scene(20, "a MAN, a MAID, 1 or 0: the first row that is none such").first("man(9)", "man(9)");
    s.first("maid(4, 0)", "maid(4, 0)", "maid(4, 0)");
    story(s, NONE, 0, 0, 0, 0, 1, 2, 0);
    story(s, NONE, 2, 0, 0, 1, 1, 2, 1);
    story(s, 0, 0, 2, 0, 0);
    story(s, 0, 0, -1, 0, 0);
    story(s, 0, 0, 0, 3, 0);
    story(s, 0, 0, 0, -1, 0);
    story(s, 0, 0, 0, 0, 2);
    story(s, 0, 0, 0, 0, -1);
    story(s, 0, 0, Integer.MAX_VALUE, 0, 0);
    story(s, 0, 0, 0, Integer.MIN_VALUE, 0);
    story(s, 0, 0, 0, 0, Integer.MAX_VALUE);
    story(s, 1, 0, 0, 0, 0, 2, 0, 0);
    story(s, 1, 0, 0, 0, 0, -1, 0, 0);
    story(s, 1, 1, 0, 0, 1, 1, 3, 0, 1, 1, 1);
    story(s, 2, 0, 0, 0, 0, 1, 1, 0, 1, 1, 2);
  }

  private static void judgeMayNotAsk() {
    Scene s = scene(20, "or in which he may not ask her")
        .first("man(0)", "man(1)", "maid(0, 0)", "maid(1, 0)", "maid(4, 0)");
    story(s, 0, 0, 0, 0, 1);
    story(s, NONE, 0, 1, 0, 1);
    story(s, NONE, 0, 0, 2, 0, 0, 0, 1);
    story(s, NONE, 1, 0, 2, 0, 0, 0, 0, 0, 1, 1);
    story(s, 1, 0, 1, 0, 1, 1, 1, 1);
    story(s, 1, 0, 1, 1, 1, 0, 1, 1);
    story(s, 2, 1, 0, 2, 0, 0, 1, 0, 0, 3, 0);
    Scene married = scene(20, "or in which he may not ask her: MARRIED")
        .first("man(0)", "man(0)", "maid(1, 0)", "maid(1, 0)", "ask(0, 0)");
    story(married, 0, 0, 0, 1, 1);
    story(married, 0, 0, 1, 0, 1);
    story(married, NONE, 0, 1, 1, 1);
  }

  private static void judgeBounds() {
    Scene noes = scene(20, "ASKINGS: NOES 9 at most").first("man(8)", "maid(4, 0)", "maid(5, 9)");
    story(noes, NONE, 0, 0, 0, 0, 0, 1, 1);
    story(noes, NONE, 0, 0, 0, 0, 0, 0, 0, 0, 1, 1);
    story(noes, NONE, 1, 0, 0, 0, 0, 0, 0, 0, 1, 0);
    story(noes, NONE, 0, 0, 1, 0, 0, 1, 1);
    Scene month = scene(20, "ASKINGS: THE MONTH 99 at most")
        .first("man(0)", "maid(4, 0)", "maid(1, 0)", "set(2, 0, 98)");
    month.read("takes month=99;worth 1;wants 1;", 1).first("force(1)");
    story(month, NONE, 0, 0, 1, 0, 0, 1, 1);
    story(month, NONE, 0, 0, 0, 0, 0, 0, 0, 0, 1, 1);
    story(month, NONE, 1, 0, 0, 0, 0, 0, 0, 0, 1, 0);
    month.first("set(2, 0, 97)");
    story(month, NONE, 1, 0, 0, 0, 0, 1, 1);
  }

  // ---- promise 21

  /** Each: a SEED, and how 2 MAIDS are drawn by it to like MAN 0, then MAN 1. */
  private static final int[][] DRAWS = {{0, 24, 19, 87, 94}, {1, 27, 16, 78, 1}, {-1, 28, 14, 89, 86},
      {Integer.MAX_VALUE, 24, 18, 93, 82}, {Integer.MIN_VALUE, 28, 15, 83, 90}};

  /** He likes both alike, so there are two STEADY rows just if neither SAYS NO: one is asked how she was drawn. */
  private static void drawnByAnySeed() {
    for (int[] draw : DRAWS) {
      for (int i = 0; i < 4; i++) {
        int man = i / 2;
        int other = 1 - i % 2;
        String known = "takes man=" + man + " and(maid=" + other + " or hers=";
        town(21, "did she like him (z >>> 9) % 100 (an int; SEED at first)", 2, 2)
            .read(known + draw[1 + i] + ");worth 1;wants 1;", 1)
            .read(known + (draw[1 + i] + 1) + ");worth 1;wants 1;", 2)
            .first("force(1)").still("drawn(" + draw[0] + ")", 2)
            .first("force(2)").still("drawn(" + draw[0] + ")", 1);
      }
    }
  }

  private static void drawnAtTheBounds() {
    scene(21, "nobody").still("drawn(MIN)", 1).still("drawn(MAX)", 1).still("drawn(0)", 1);
    town(21, "no MAIDS", 4, 0).still("drawn(1)", 1);
    town(21, "no MEN", 0, 4).still("drawn(1)", 1);
    // the last of 16 draws by SEED 0 is 52
    town(21, "for each MAN, and for him each MAID: 4 and 4", 4, 4)
        .read("takes man=3 and(maid=0 or hers=52);worth 1;wants 1;", 1).first("force(1)").still("drawn(0)", 2);
    town(21, "for each MAN, and for him each MAID: 1 and 3", 1, 3)
        .read("takes hers=24 or hers=19 or hers=87;worth 1;wants 1;", 1).first("force(1)").still("drawn(0)", 3);
    rich(21, "DRAWN: in thought").still("drawn(MIN)", 1).still("drawn(0)", 1);
  }

  // ---- promise 22

  private static void chanceRefused() {
    town(22, "IN n seeds (1 .. 20), part 0, 1. NO: n, part", 2, 2).outside("chance(0, %, 0)", 1, 20, NO)
        .outside("chance(0, %, 1)", 1, 20, NO).outside("chance(0, 1, %)", 0, 1, NO)
        .outside("chance(0, 20, %)", 0, 1, NO).refused("chance(0, 0, 2)", NO);
    rich(22, "NO: n, part").outside("chance(5, %, 0)", 1, 20, NO).outside("chance(5, 2, %)", 0, 1, NO);
  }

  /** Of every town some row is STEADY, so that all seeds have any: 1 above, 1 below the line. */
  private static void chanceOfSeeds() {
    Scene s = town(22, "SEED and each 1 more (an int), in lowest terms", 4, 4);
    for (int i = 0; i < 4; i++) {
      s.first("likes(" + i + ", " + (3 - i) + ", 0, 60)", "likes(" + i + ", 1, 0, " + (70 + i) + ")");
    }
    for (int n = 1; n <= 20; n++) {
      s.still("chance(MAX, " + n + ", 0)", 1).still("chance(MAX, " + n + ", 1)", 1);
    }
    s.still("chance(MIN, 1, 0)", 1).still("chance(MIN, 20, 1)", 1).still("chance(-10, 20, 1)", 1);
    rich(22, "IN n seeds: in thought").still("chance(MAX, 20, 0)", 1).still("chance(0, 1, 1)", 1);
  }
}
