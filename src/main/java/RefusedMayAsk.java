import java.util.Arrays;

/**
 * Suitors and maids, where only who has been refused may ask. What each call answers is told by the
 * document's promises; everything is made in the constructor, so that no call makes an object.
 */
public final class RefusedMayAsk {
  public static final int NONE = -1, BAD = -2, STATE = -3, FULL = -4;
  public static final long NO = -4611686018427387904L;

  private static final int NOTHING = -11, OUTSIDE = -12, OTHER_SORT = -13, BELOW_ZERO = -14;
  private static final int FAULTY = -100;
  private static final int MOST_PEOPLE = 4, MOST_NOES = 9, MOST_MONTH = 99, MOST_LIKING = 99;
  private static final int MOST_NUMBER = 9, MOST_TEXTS = 6, MOST_ROUNDS = 12, MOST_SEEDS = 20;
  private static final int SHEET_COUNT = 4, MOST_ITEMS = 40, MOST_LIKINGS = 10;
  private static final String FIRST_RULE = "takes 1 ; worth like + hers - 50 ; wants 30 < like ;";

  private final Reader reader = new Reader();
  private final Rule[] rules = new Rule[MOST_TEXTS];
  private int texts = 1;
  private final Town town;
  private final Town thought;
  private final Town kept;
  private boolean hasImage = false;
  private final Pairings pairs = new Pairings();
  private final Ways ways = new Ways();
  private final Sheet[] sheets = new Sheet[SHEET_COUNT];

  public RefusedMayAsk() {
    for (int i = 0; i < MOST_TEXTS; i++) {
      rules[i] = new Rule(i);
    }
    for (int i = 0; i < SHEET_COUNT; i++) {
      sheets[i] = new Sheet();
    }
    for (int i = 0; i < FIRST_RULE.length(); i++) {
      reader.append(FIRST_RULE.charAt(i));
    }
    reader.read();
    rules[0].adopt(reader.codes, reader.ends);
    reader.size = 0;
    town = new Town(rules[0]);
    thought = new Town(rules[0]);
    kept = new Town(rules[0]);
  }

  // ---- men, maids

  public int man(int noes) {
    if (!within(noes, 0, MOST_NOES)) {
      return BAD;
    }
    if (town.men >= MOST_PEOPLE) {
      return FULL;
    }
    town.noes[town.men] = noes;
    town.men++;
    return town.men - 1;
  }

  public int maid(int kind, int number) {
    if (!within(kind, 0, Kind.LAST) || !within(number, 0, MOST_NUMBER)) {
      return BAD;
    }
    if (town.maids >= MOST_PEOPLE) {
      return FULL;
    }
    town.kind[town.maids] = kind;
    town.number[town.maids] = number;
    town.maids++;
    return town.maids - 1;
  }

  public int likes(int man, int maid, int what, int v) {
    if (!arePair(man, maid) || !within(what, 0, 1) || !within(v, 0, MOST_LIKING)) {
      return BAD;
    }
    return replace(what == 0 ? town.his : town.hers, Town.at(man, maid), v);
  }

  public int set(int what, int of, int v) {
    switch (what) {
      case 0:
        return isMan(of) && within(v, 0, MOST_NOES) ? replace(town.noes, of, v) : BAD;
      case 1:
        return isMaid(of) && within(v, 0, MOST_NUMBER) ? replace(town.number, of, v) : BAD;
      case 2:
        return within(v, 0, MOST_MONTH) ? replaceMonth(v) : BAD;
      default:
        return BAD;
    }
  }

  public int told(int man, int maid, int what) {
    if (!arePair(man, maid)) {
      return BAD;
    }
    switch (what) {
      case 0:
        return town.his[Town.at(man, maid)];
      case 1:
        return town.hers[Town.at(man, maid)];
      case 2:
        return town.mayAsk(man, maid) ? 1 : 0;
      case 3:
        return town.saysNo(man, maid) ? 1 : 0;
      case 4:
        return town.worth(man, maid);
      case 5:
        return town.wants(man, maid) ? 1 : 0;
      default:
        return BAD;
    }
  }

  public int of(int number, int what) {
    if (within(what, 0, 4)) {
      return isMaid(number) ? ofMaid(number, what) : BAD;
    }
    if (within(what, 5, 6)) {
      return isMan(number) ? ofMan(number, what) : BAD;
    }
    return BAD;
  }

  private int ofMaid(int maid, int what) {
    switch (what) {
      case 0:
        return town.kind[maid];
      case 1:
        return town.number[maid];
      case 2:
        return Kind.needs(town.kind[maid], town.number[maid]);
      case 3:
        return Kind.price(town.kind[maid], town.number[maid]);
      default:
        return town.husband(maid);
    }
  }

  private int ofMan(int man, int what) {
    return what == 5 ? town.noes[man] : town.wife[man];
  }

  // ---- texts

  public int feed(int letter) {
    if (!within(letter, 0, 255)) {
      return BAD;
    }
    return reader.append(letter) ? reader.size : FULL;
  }

  public int text() {
    if (texts >= MOST_TEXTS) {
      return FULL;
    }
    int fault = reader.read();
    reader.size = 0;
    if (fault != NONE) {
      return FAULTY - fault;
    }
    rules[texts].adopt(reader.codes, reader.ends);
    texts++;
    return texts - 1;
  }

  public int force(int text) {
    if (!within(text, 0, texts - 1)) {
      return BAD;
    }
    int was = town.rule.number;
    town.rule = rules[text];
    return was;
  }

  // ---- askings

  public int ask(int man, int maid) {
    if (!arePair(man, maid)) {
      return BAD;
    }
    if (!town.mayAsk(man, maid)) {
      return STATE;
    }
    return town.asking(man, maid) ? 1 : 0;
  }

  public int part(int man) {
    if (!isMan(man)) {
      return BAD;
    }
    return town.wife[man] == NONE ? STATE : replace(town.wife, man, NONE);
  }

  public int way(int man, int maid, int sort, int what) {
    if (!arePair(man, maid) || !within(sort, 0, 1) || !within(what, 0, 5)) {
      return BAD;
    }
    thought.resemble(town);
    ways.seek(thought, man, maid, sort);
    if (!ways.found) {
      return NONE;
    }
    switch (what) {
      case 0:
        return ways.length;
      case 1:
        return ways.prices;
      default:
        return what - 2 < ways.length ? ways.asked[what - 2] : NONE;
    }
  }

  public int mistake(int man) {
    if (!isMan(man)) {
      return BAD;
    }
    int least = NONE;
    for (int maid = 0; maid < town.maids; maid++) {
      if (town.mayAsk(man, maid) && !town.saysNo(man, maid)
          && (least == NONE || town.his[Town.at(man, maid)] < town.his[Town.at(man, least)])) {
        least = maid;
      }
    }
    return least;
  }

  public int sure(int man) {
    if (!isMan(man)) {
      return BAD;
    }
    thought.resemble(town);
    int bits = 0;
    for (int maid = 0; maid < town.maids; maid++) {
      if (town.mayAsk(man, maid) && refusesFromNowOn(man, maid)) {
        bits |= 1 << maid;
      }
    }
    return bits;
  }

  private boolean refusesFromNowOn(int man, int maid) {
    for (int noes = town.noes[man]; noes <= MOST_NOES; noes++) {
      thought.noes[man] = noes;
      if (!thought.saysNo(man, maid)) {
        return false;
      }
    }
    return true;
  }

  // ---- pairings

  public int pairings(int sort) {
    if (!within(sort, 0, 1)) {
      return BAD;
    }
    pairs.tryAll(town);
    return pairs.rows[sort];
  }

  public int best(int sort, int man) {
    if (!within(sort, 0, 1) || man != NONE && !isMan(man)) {
      return BAD;
    }
    pairs.tryAll(town);
    if (pairs.rows[sort] == 0) {
      return STATE;
    }
    return man == NONE ? pairs.content[sort] : pairs.bestMaid(sort, man);
  }

  public int row(int sheet) {
    if (!isSheet(sheet)) {
      return BAD;
    }
    Sheet told = sheets[sheet];
    if (told.isMissing()) {
      return NOTHING;
    }
    return told.size == town.men ? pairs.rank(town, told.items) : BAD;
  }

  public int year(int n, int what) {
    if (!within(n, 0, MOST_ROUNDS) || !within(what, 0, 6)) {
      return BAD;
    }
    thought.resemble(town);
    for (int round = 0; round < n; round++) {
      passRound();
    }
    switch (what) {
      case 0:
        return thought.marriedMen();
      case 1:
        return thought.askings;
      case 2:
        return thought.prices;
      default:
        return isMan(what - 3) ? thought.wife[what - 3] : NONE;
    }
  }

  private void passRound() {
    for (int man = 0; man < thought.men; man++) {
      int maid = thought.choice(man);
      if (maid != NONE) {
        thought.asking(man, maid);
      }
    }
  }

  public int judge(int sheet, int what) {
    if (!isSheet(sheet) || !within(what, 0, 1)) {
      return BAD;
    }
    Sheet story = sheets[sheet];
    if (story.isMissing()) {
      return NOTHING;
    }
    if (story.size % 3 != 0) {
      return BAD;
    }
    thought.resemble(town);
    int falseRows = 0;
    for (int i = 0; 3 * i < story.size; i++) {
      int man = story.items[3 * i];
      int maid = story.items[3 * i + 1];
      int took = story.items[3 * i + 2];
      if (!arePair(man, maid) || !within(took, 0, 1) || !thought.mayAsk(man, maid)) {
        return what == 0 ? i : falseRows;
      }
      if (thought.saysNo(man, maid) == (took == 1)) {
        falseRows++;
      }
      thought.endAsking(man, maid, took == 1);
    }
    return what == 0 ? NONE : falseRows;
  }

  public int drawn(int seed) {
    thought.resemble(town);
    thought.drawHers(seed);
    pairs.tryAll(thought);
    return pairs.rows[Pairings.STEADY];
  }

  public long chance(int seed, int n, int part) {
    if (!within(n, 1, MOST_SEEDS) || !within(part, 0, 1)) {
      return NO;
    }
    int any = 0;
    for (int i = 0; i < n; i++) {
      if (drawn(seed + i) > 0) {
        any++;
      }
    }
    int divisor = commonDivisor(any, n);
    return part == 0 ? any / divisor : n / divisor;
  }

  private static int commonDivisor(int a, int b) {
    for (int divisor = b; divisor > 1; divisor--) {
      if (a % divisor == 0 && b % divisor == 0) {
        return divisor;
      }
    }
    return 1;
  }

  public int image() {
    kept.resemble(town);
    hasImage = true;
    return town.men;
  }

  public int back() {
    if (!hasImage) {
      return STATE;
    }
    town.resemble(kept);
    return town.men;
  }

  public int count(int what) {
    switch (what) {
      case 0:
        return town.men;
      case 1:
        return town.maids;
      case 2:
        return town.marriedMen();
      case 3:
        return town.month;
      case 4:
        return texts;
      case 5:
        return reader.size;
      case 6:
        return town.rule.number;
      default:
        return BAD;
    }
  }

  // ---- the host

  public int sheet(int sheet, int sort, int n) {
    if (!isSheet(sheet) || !within(sort, Sheet.MISSING, Sheet.INTS)) {
      return BAD;
    }
    if (sort == Sheet.MISSING) {
      sheets[sheet].lay(sort, 0);
      return 1;
    }
    if (n > MOST_ITEMS) {
      return BAD;
    }
    if (n < 0) {
      return BELOW_ZERO;
    }
    sheets[sheet].lay(sort, n);
    return 1;
  }

  public int cell(int sheet, int i, int v) {
    if (!isSheet(sheet)) {
      return BAD;
    }
    Sheet told = sheets[sheet];
    if (told.isMissing()) {
      return NOTHING;
    }
    if (!told.holds(i, 1)) {
      return OUTSIDE;
    }
    told.put(i, v);
    return 1;
  }

  public int copy(int sheet, int i, int other, int j, int n) {
    if (!isSheet(sheet) || !isSheet(other)) {
      return BAD;
    }
    Sheet from = sheets[sheet];
    Sheet to = sheets[other];
    if (from.isMissing() || to.isMissing()) {
      return NOTHING;
    }
    if (from.sort != to.sort) {
      return OTHER_SORT;
    }
    if (!from.holds(i, n) || !to.holds(j, n)) {
      return OUTSIDE;
    }
    System.arraycopy(from.items, i, to.items, j, n);
    return n;
  }

  public int likings(int sheet, int sort, int from, int n) {
    if (!isSheet(sheet) || !within(sort, Sheet.BYTES, Sheet.INTS) || !within(n, 0, MOST_LIKINGS)) {
      return BAD;
    }
    Sheet told = sheets[sheet];
    if (told.isMissing()) {
      return NOTHING;
    }
    if (told.sort != sort) {
      return OTHER_SORT;
    }
    int became = 0;
    for (int k = 0; k < n; k++) {
      int at = from + 4 * k;
      if (!told.holds(at, 4)) {
        return OUTSIDE;
      }
      int[] items = told.items;
      if (likes(items[at], items[at + 1], items[at + 2], items[at + 3]) != BAD) {
        became++;
      }
    }
    return became;
  }

  public int taken(int maid, int k) {
    if (!within(k, 0, Kind.LAST)) {
      return BAD;
    }
    if (!isMaid(maid)) {
      return NOTHING;
    }
    return Kind.isUnder(town.kind[maid], k) ? town.number[maid] : OTHER_SORT;
  }

  private static boolean within(int v, int least, int most) {
    return least <= v && v <= most;
  }

  private boolean isMan(int man) {
    return within(man, 0, town.men - 1);
  }

  private boolean isMaid(int maid) {
    return within(maid, 0, town.maids - 1);
  }

  private boolean arePair(int man, int maid) {
    return isMan(man) && isMaid(maid);
  }

  private static boolean isSheet(int sheet) {
    return within(sheet, 0, SHEET_COUNT - 1);
  }

  private static int replace(int[] numbers, int i, int v) {
    int was = numbers[i];
    numbers[i] = v;
    return was;
  }

  private int replaceMonth(int v) {
    int was = town.month;
    town.month = v;
    return was;
  }

  /** What differs from KIND to KIND; the numbers of the KINDS are the document's. */
  private static final class Kind {
    static final int MAID = 0, PLAIN = 1, PROUD = 2, WIDOW = 3, AUNT = 4, FLIRT = 5;
    static final int LAST = FLIRT;
    private static final int[] UNDER = {NONE, MAID, MAID, PROUD, PLAIN, MAID};

    static int needs(int kind, int number) {
      switch (kind) {
        case PLAIN:
        case AUNT:
          return 0;
        case PROUD:
          return 1 + number % 3;
        case WIDOW:
          return 2 + number % 3;
        case FLIRT:
          return number % 2 == 0 ? 0 : 1;
        default:
          return 1;
      }
    }

    static boolean refuses(int kind, int number, int liked, int noes) {
      boolean asMaid = liked < 50;
      switch (kind) {
        case PLAIN:
          return asMaid && liked < 10 * number;
        case PROUD:
          return asMaid || noes > 2;
        case WIDOW:
          return asMaid || noes > 2 || liked < 70;
        case AUNT:
          return true;
        case FLIRT:
          return (noes + number) % 2 != 0;
        default:
          return asMaid;
      }
    }

    static int price(int kind, int number) {
      switch (kind) {
        case PLAIN:
          return number + 5;
        case PROUD:
          return 2 * number;
        case WIDOW:
          return Math.max(2 * number - 3, 0);
        case AUNT:
          return 0;
        case FLIRT:
          return number + 1;
        default:
          return number;
      }
    }

    static boolean isUnder(int kind, int above) {
      int of = kind;
      for (int step = 0; step <= LAST && of != NONE; step++) {
        if (of == above) {
          return true;
        }
        of = UNDER[of];
      }
      return false;
    }
  }

  /**
   * MEN and MAIDS as they stand: the real ones, those in thought, those of THE IMAGE. The places of
   * people who haven't come always hold what is so at first, so whoever comes needs no clearing.
   */
  private static final class Town {
    int men = 0;
    int maids = 0;
    int month = 0;
    Rule rule;
    /** ASKINGS, and PRICES of all who refused, since this TOWN was made to resemble another. */
    int askings = 0;
    int prices = 0;
    final int[] noes = new int[MOST_PEOPLE];
    final int[] wife = new int[MOST_PEOPLE];
    final int[] kind = new int[MOST_PEOPLE];
    final int[] number = new int[MOST_PEOPLE];
    final int[] his = new int[MOST_PEOPLE * MOST_PEOPLE];
    final int[] hers = new int[MOST_PEOPLE * MOST_PEOPLE];
    private final int[] names = new int[Rule.NAMES];

    Town(Rule first) {
      rule = first;
      Arrays.fill(wife, NONE);
      Arrays.fill(his, 50);
      Arrays.fill(hers, 50);
    }

    static int at(int man, int maid) {
      return man * MOST_PEOPLE + maid;
    }

    void resemble(Town other) {
      men = other.men;
      maids = other.maids;
      month = other.month;
      rule = other.rule;
      askings = 0;
      prices = 0;
      System.arraycopy(other.noes, 0, noes, 0, noes.length);
      System.arraycopy(other.wife, 0, wife, 0, wife.length);
      System.arraycopy(other.kind, 0, kind, 0, kind.length);
      System.arraycopy(other.number, 0, number, 0, number.length);
      System.arraycopy(other.his, 0, his, 0, his.length);
      System.arraycopy(other.hers, 0, hers, 0, hers.length);
    }

    int husband(int maid) {
      for (int man = 0; man < men; man++) {
        if (wife[man] == maid) {
          return man;
        }
      }
      return NONE;
    }

    int marriedMen() {
      int married = 0;
      for (int man = 0; man < men; man++) {
        if (wife[man] != NONE) {
          married++;
        }
      }
      return married;
    }

    boolean mayAsk(int man, int maid) {
      return wife[man] == NONE && husband(maid) == NONE
          && noes[man] >= Kind.needs(kind[maid], number[maid]);
    }

    boolean saysNo(int man, int maid) {
      return Kind.refuses(kind[maid], number[maid], hers[at(man, maid)], noes[man])
          || ruled(Rule.TAKES_PART, man, maid) == 0;
    }

    int worth(int man, int maid) {
      return Math.max(0, Math.min(ruled(Rule.WORTH_PART, man, maid), 99));
    }

    boolean wants(int man, int maid) {
      return ruled(Rule.WANTS_PART, man, maid) != 0;
    }

    private int ruled(int part, int man, int maid) {
      names[Rule.LIKE] = his[at(man, maid)];
      names[Rule.HERS] = hers[at(man, maid)];
      names[Rule.NOES] = noes[man];
      names[Rule.MONTH] = month;
      names[Rule.MAN] = man;
      names[Rule.MAID] = maid;
      return rule.value(part, names);
    }

    boolean asking(int man, int maid) {
      boolean takes = !saysNo(man, maid);
      endAsking(man, maid, takes);
      return takes;
    }

    void endAsking(int man, int maid, boolean takes) {
      if (takes) {
        wife[man] = maid;
      } else {
        noes[man] = Math.min(noes[man] + 1, MOST_NOES);
        prices += Kind.price(kind[maid], number[maid]);
      }
      month = Math.min(month + 1, MOST_MONTH);
      askings++;
    }

    /** Whom he asks in a ROUND. */
    int choice(int man) {
      int most = NONE;
      for (int maid = 0; maid < maids; maid++) {
        if (mayAsk(man, maid) && wants(man, maid)
            && (most == NONE || his[at(man, maid)] > his[at(man, most)])) {
          most = maid;
        }
      }
      return most;
    }

    void drawHers(int seed) {
      int z = seed;
      for (int man = 0; man < men; man++) {
        for (int maid = 0; maid < maids; maid++) {
          z = z * 1103515245 + 12345;
          hers[at(man, maid)] = (z >>> 9) % 100;
        }
      }
    }
  }

  /**
   * A TEXT as codes, operands ahead of what joins them: a NUMBER stands for itself, all else is the
   * token's number below 0, so that each token makes one code at most.
   */
  private static final class Rule {
    static final int LIKE = 1, HERS = 2, NOES = 3, MONTH = 4, MAN = 5, MAID = 6, NAMES = 7;
    static final int TAKES = 7, WORTH = 8, WANTS = 9, OR = 10, AND = 11, NOT = 12, NEGATE = 13;
    /** The parts come as their keys do. */
    static final int TAKES_PART = 0, WORTH_PART = 1, WANTS_PART = 2, PARTS = 3;

    final int number;
    private final int[] codes = new int[Reader.TAPE];
    private final int[] ends = new int[PARTS];
    private final int[] stack = new int[Reader.TAPE];

    Rule(int number) {
      this.number = number;
    }

    void adopt(int[] newCodes, int[] newEnds) {
      System.arraycopy(newCodes, 0, codes, 0, Math.min(newCodes.length, codes.length));
      System.arraycopy(newEnds, 0, ends, 0, Math.min(newEnds.length, ends.length));
    }

    int value(int part, int[] names) {
      int top = 0;
      for (int i = part == 0 ? 0 : ends[part - 1]; i < ends[part]; i++) {
        int code = codes[i];
        if (code > -NAMES) {
          if (top < stack.length) {
            stack[top] = code >= 0 ? code : names[-code];
            top++;
          }
        } else if (code == -NOT || code == -NEGATE) {
          if (top >= 1) {
            stack[top - 1] = turned(code, stack[top - 1]);
          }
        } else if (top >= 2) {
          top--;
          stack[top - 1] = joined(code, stack[top - 1], stack[top]);
        }
      }
      return stack[0];
    }

    private static int turned(int code, int a) {
      if (code == -NEGATE) {
        return -a;
      }
      return a == 0 ? 1 : 0;
    }

    private static int joined(int code, int a, int b) {
      switch (-code) {
        case OR:
          return a != 0 || b != 0 ? 1 : 0;
        case AND:
          return a != 0 && b != 0 ? 1 : 0;
        case '<':
          return a < b ? 1 : 0;
        case '=':
          return a == b ? 1 : 0;
        case '+':
          return a + b;
        case '-':
          return a - b;
        default:
          return a * b;
      }
    }
  }

  /**
   * THE TAPE, and what reads it. A SIGN's token is its byte, a WORD's one of Rule's numbers. Behind
   * a FAULT the token is WRONG and stays so: no part of a TEXT begins or goes on with it.
   */
  private static final class Reader {
    static final int TAPE = 160;
    private static final int WRONG = -2, END = -1, NUMBER = 0;
    private static final int DEEPEST = 5, LONGEST_NUMBER = 4;
    private static final int OR_LEVEL = 0, AND_LEVEL = 1, NOT_LEVEL = 2, SUM_LEVEL = 3;
    private static final int TERM_LEVEL = 4;

    final int[] codes = new int[TAPE];
    final int[] ends = new int[Rule.PARTS];
    int size = 0;
    private final int[] tape = new int[TAPE];
    private int length = 0;
    private int place = 0;
    private int start = 0;
    private int token = END;
    private int value = 0;
    private int fault = NONE;

    boolean append(int letter) {
      if (size >= TAPE) {
        return false;
      }
      tape[size] = letter;
      size++;
      return true;
    }

    /** Makes codes and their ends of THE TAPE: the place of its FAULT, or NONE. */
    int read() {
      length = 0;
      place = 0;
      fault = NONE;
      advance();
      for (int part = 0; part < Rule.PARTS; part++) {
        expect(Rule.TAKES + part);
        readLevel(OR_LEVEL, 0);
        expect(';');
        ends[part] = length;
      }
      expect(END);
      return fault;
    }

    /** E, AND, NOT, SUM, TERM are alike: things of the next level, joined by tokens of this one. */
    private void readLevel(int level, int open) {
      if (level > TERM_LEVEL) {
        readOne(open);
        return;
      }
      if (level == NOT_LEVEL && token == Rule.NOT) {
        if (enter(open)) {
          readLevel(NOT_LEVEL, open + 1);
          emit(-Rule.NOT);
        }
        return;
      }
      readLevel(level + 1, open);
      int most = level == NOT_LEVEL ? 1 : TAPE;
      for (int i = 0; i < most && levelOf(token) == level; i++) {
        int joint = token;
        advance();
        readLevel(level + 1, open);
        emit(-joint);
      }
    }

    private static int levelOf(int token) {
      switch (token) {
        case Rule.OR:
          return OR_LEVEL;
        case Rule.AND:
          return AND_LEVEL;
        case '<':
        case '=':
          return NOT_LEVEL;
        case '+':
        case '-':
          return SUM_LEVEL;
        case '*':
          return TERM_LEVEL;
        default:
          return NONE;
      }
    }

    private void readOne(int open) {
      if (token == NUMBER) {
        emit(value);
        advance();
      } else if (token >= Rule.LIKE && token <= Rule.MAID) {
        emit(-token);
        advance();
      } else if (token == '-') {
        if (enter(open)) {
          readOne(open + 1);
          emit(-Rule.NEGATE);
        }
      } else if (token == '(') {
        if (enter(open)) {
          readLevel(OR_LEVEL, open + 1);
          expect(')');
        }
      } else {
        fail();
      }
    }

    /** Goes past a token that stays open, unless too many are. */
    private boolean enter(int open) {
      if (open >= DEEPEST) {
        fail();
        return false;
      }
      advance();
      return true;
    }

    private void expect(int wanted) {
      if (token != wanted) {
        fail();
      } else if (token != END) {
        advance();
      }
    }

    private void fail() {
      if (fault == NONE) {
        fault = start;
      }
      token = WRONG;
    }

    private void emit(int code) {
      if (length < codes.length) {
        codes[length] = code;
        length++;
      }
    }

    private void advance() {
      while (place < size && (tape[place] == ' ' || tape[place] == '\n')) {
        place++;
      }
      start = place;
      if (place >= size) {
        token = END;
      } else if (isLetter(tape[place])) {
        takeWord();
      } else if (isDigit(tape[place])) {
        takeNumber();
      } else {
        token = isSign(tape[place]) ? tape[place] : WRONG;
        place++;
      }
    }

    private void takeWord() {
      while (place < size && isLetter(tape[place])) {
        place++;
      }
      token = WRONG;
      for (int word = Rule.LIKE; word <= Rule.NOT; word++) {
        if (spells(spelling(word))) {
          token = word;
        }
      }
    }

    private void takeNumber() {
      value = 0;
      while (place < size && isDigit(tape[place])) {
        value = value * 10 + tape[place] - '0';
        place++;
      }
      token = place - start > LONGEST_NUMBER ? WRONG : NUMBER;
    }

    /** Whether the bytes from start up to place are that word. */
    private boolean spells(String word) {
      if (place - start != word.length()) {
        return false;
      }
      for (int i = 0; i < word.length(); i++) {
        if (tape[start + i] != word.charAt(i)) {
          return false;
        }
      }
      return true;
    }

    private static String spelling(int word) {
      switch (word) {
        case Rule.LIKE:
          return "like";
        case Rule.HERS:
          return "hers";
        case Rule.NOES:
          return "noes";
        case Rule.MONTH:
          return "month";
        case Rule.MAN:
          return "man";
        case Rule.MAID:
          return "maid";
        case Rule.TAKES:
          return "takes";
        case Rule.WORTH:
          return "worth";
        case Rule.WANTS:
          return "wants";
        case Rule.OR:
          return "or";
        case Rule.AND:
          return "and";
        default:
          return "not";
      }
    }

    private static boolean isLetter(int letter) {
      return 'a' <= letter && letter <= 'z';
    }

    private static boolean isDigit(int letter) {
      return '0' <= letter && letter <= '9';
    }

    private static boolean isSign(int letter) {
      switch (letter) {
        case '(':
        case ')':
        case ';':
        case '+':
        case '-':
        case '*':
        case '<':
        case '=':
          return true;
        default:
          return false;
      }
    }
  }

  /** TO BE LET: the row that is best of all by a sort. */
  private static final class Ways {
    final int[] asked = new int[MOST_PEOPLE];
    boolean found = false;
    int length = 0;
    int prices = 0;
    private final int[] path = new int[MOST_PEOPLE];

    /** The town is one in thought: its months go on here. */
    void seek(Town town, int man, int maid, int sort) {
      found = false;
      goOn(town, man, maid, sort, 0, 1 << maid);
    }

    /** Rows come in the order that settles between like ones: only a better one takes the place. */
    private void goOn(Town town, int man, int maid, int sort, int depth, int passed) {
      if (town.mayAsk(man, maid) && isBetter(sort, depth, town.prices)) {
        keep(depth, town.prices);
      }
      if (depth >= MOST_PEOPLE) {
        return;
      }
      int noes = town.noes[man];
      int month = town.month;
      int spent = town.prices;
      for (int next = 0; next < town.maids; next++) {
        if ((passed >> next & 1) == 0 && town.mayAsk(man, next) && town.saysNo(man, next)) {
          path[depth] = next;
          town.endAsking(man, next, false);
          goOn(town, man, maid, sort, depth + 1, passed | 1 << next);
          town.noes[man] = noes;
          town.month = month;
          town.prices = spent;
        }
      }
    }

    private boolean isBetter(int sort, int newLength, int newPrices) {
      return !found || (sort == 0 ? newLength < length : newPrices < prices);
    }

    private void keep(int newLength, int newPrices) {
      found = true;
      length = newLength;
      prices = newPrices;
      System.arraycopy(path, 0, asked, 0, path.length);
    }
  }

  /** All PAIRINGS of a TOWN: how many there are of both sorts, and the BEST of each. */
  private static final class Pairings {
    static final int LAWFUL = 0, STEADY = 1, SORTS = 2;

    final int[] rows = new int[SORTS];
    final int[] content = new int[SORTS];
    private final int[] best = new int[SORTS * MOST_PEOPLE];
    private final boolean[] allowed = new boolean[MOST_PEOPLE * MOST_PEOPLE];
    private final int[] worth = new int[MOST_PEOPLE * MOST_PEOPLE];
    private final int[] wife = new int[MOST_PEOPLE];
    private final int[] likesOwn = new int[MOST_PEOPLE];

    void tryAll(Town town) {
      weigh(town);
      Arrays.fill(rows, 0);
      Arrays.fill(content, 0);
      pairFrom(town, 0, 0, 0);
    }

    int bestMaid(int sort, int man) {
      return best[sort * MOST_PEOPLE + man];
    }

    /** Of a told row (an item for each MAN): 0 it is none, 1 it is one, 2 LAWFUL, 3 STEADY. */
    int rank(Town town, int[] told) {
      weigh(town);
      int passed = 0;
      boolean lawful = true;
      for (int man = 0; man < town.men; man++) {
        int maid = told[man];
        if (maid < NONE || maid >= town.maids || maid != NONE && (passed >> maid & 1) == 1) {
          return 0;
        }
        if (maid != NONE) {
          passed |= 1 << maid;
          lawful = lawful && allowed[Town.at(man, maid)];
        }
        wife[man] = maid;
      }
      if (!lawful) {
        return 1;
      }
      return isSteady(town) ? 3 : 2;
    }

    private void weigh(Town town) {
      for (int man = 0; man < town.men; man++) {
        for (int maid = 0; maid < town.maids; maid++) {
          allowed[Town.at(man, maid)] = !town.saysNo(man, maid);
          worth[Town.at(man, maid)] = town.worth(man, maid);
        }
      }
    }

    /** Rows come in their order: of like ones the first keeps its place. */
    private void pairFrom(Town town, int man, int passed, int sum) {
      if (man >= town.men) {
        enter(LAWFUL, sum);
        if (isSteady(town)) {
          enter(STEADY, sum);
        }
        return;
      }
      wife[man] = NONE;
      pairFrom(town, man + 1, passed, sum);
      for (int maid = 0; maid < town.maids; maid++) {
        if ((passed >> maid & 1) == 0 && allowed[Town.at(man, maid)]) {
          wife[man] = maid;
          pairFrom(town, man + 1, passed | 1 << maid, sum + worth[Town.at(man, maid)]);
        }
      }
    }

    private void enter(int sort, int sum) {
      if (rows[sort] == 0 || sum > content[sort]) {
        content[sort] = sum;
        System.arraycopy(wife, 0, best, sort * MOST_PEOPLE, MOST_PEOPLE);
      }
      rows[sort]++;
    }

    /** Of a LAWFUL row. A pair of it breaks nothing: neither likes the other more than that. */
    private boolean isSteady(Town town) {
      Arrays.fill(likesOwn, -1);
      for (int man = 0; man < town.men; man++) {
        if (wife[man] != NONE) {
          likesOwn[wife[man]] = town.hers[Town.at(man, wife[man])];
        }
      }
      for (int man = 0; man < town.men; man++) {
        int own = wife[man] == NONE ? -1 : town.his[Town.at(man, wife[man])];
        for (int maid = 0; maid < town.maids; maid++) {
          int at = Town.at(man, maid);
          if (allowed[at] && town.his[at] > own && town.hers[at] > likesOwn[maid]) {
            return false;
          }
        }
      }
      return true;
    }
  }

  /** A row of numbers of a sort, or missing. */
  private static final class Sheet {
    static final int MISSING = -1, BYTES = 0, SHORTS = 1, INTS = 2;

    int sort = MISSING;
    int size = 0;
    final int[] items = new int[MOST_ITEMS];

    boolean isMissing() {
      return sort == MISSING;
    }

    void lay(int newSort, int newSize) {
      sort = newSort;
      size = newSize;
      Arrays.fill(items, 0);
    }

    /** Whether n items from i on all stand in it. */
    boolean holds(int i, int n) {
      return i >= 0 && n >= 0 && i <= size - n;
    }

    void put(int i, int v) {
      switch (sort) {
        case BYTES:
          items[i] = (byte) v;
          break;
        case SHORTS:
          items[i] = (short) v;
          break;
        default:
          items[i] = v;
          break;
      }
    }
  }
}
