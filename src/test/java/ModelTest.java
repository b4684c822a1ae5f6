import java.util.Arrays;
import java.util.Random;

/** All promises: runs of 512 calls, each with the answer that the document told again gives. */
public final class ModelTest {
  private static final int RUNS = 250, CALLS = 512;
  private static final String[] CALL = {"man", "maid", "likes", "set", "told", "of", "feed", "text",
      "force", "ask", "part", "way", "mistake", "sure", "pairings", "best", "row", "year", "judge",
      "drawn", "chance", "image", "back", "count", "sheet", "cell", "copy", "likings", "taken"};
  /** How often each call comes, beside the texts that are fed whole. */
  private static final int[] WEIGHT = {4, 4, 20, 10, 20, 8, 2, 1, 6, 25, 5, 25, 8, 8, 2, 4, 8, 12,
      8, 1, 1, 1, 1, 4, 8, 30, 4, 8, 5};

  private final Random random;
  private final RefusedMayAsk program = new RefusedMayAsk();
  private final Model model = new Model();
  private final Due due;
  private int left = CALLS;

  private ModelTest(int seed, Due due) {
    random = new Random(seed);
    this.due = due;
  }

  public static void main(String[] args) {
    Due due = new Due();
    for (int seed = 0; seed < RUNS; seed++) {
      new ModelTest(seed, due).run();
    }
    due.end();
  }

  private void run() {
    int total = Arrays.stream(WEIGHT).sum();
    int people = random.nextInt(5);
    for (int i = 0; i < people; i++) {
      call(0, random.nextInt(4));
      call(1, random.nextInt(6), random.nextInt(10));
    }
    while (left > 0) {
      if (random.nextInt(80) == 0 && left > 200) {
        feedText();
      } else if (random.nextInt(60) == 0) {
        laySheet();
      }
      int pick = random.nextInt(total);
      int which = 0;
      while (pick >= WEIGHT[which]) {
        pick -= WEIGHT[which++];
      }
      callAny(which);
    }
  }

  private void call(int which, int... a) {
    if (left == 0) {
      return;
    }
    left--;
    String told = CALL[which] + Arrays.toString(a);
    due.is(told, onProgram(which, a), onModel(which, a));
  }

  private long onProgram(int which, int[] a) {
    RefusedMayAsk x = program;
    return switch (which) {
      case 0 -> x.man(a[0]);
      case 1 -> x.maid(a[0], a[1]);
      case 2 -> x.likes(a[0], a[1], a[2], a[3]);
      case 3 -> x.set(a[0], a[1], a[2]);
      case 4 -> x.told(a[0], a[1], a[2]);
      case 5 -> x.of(a[0], a[1]);
      case 6 -> x.feed(a[0]);
      case 7 -> x.text();
      case 8 -> x.force(a[0]);
      case 9 -> x.ask(a[0], a[1]);
      case 10 -> x.part(a[0]);
      case 11 -> x.way(a[0], a[1], a[2], a[3]);
      case 12 -> x.mistake(a[0]);
      case 13 -> x.sure(a[0]);
      case 14 -> x.pairings(a[0]);
      case 15 -> x.best(a[0], a[1]);
      case 16 -> x.row(a[0]);
      case 17 -> x.year(a[0], a[1]);
      case 18 -> x.judge(a[0], a[1]);
      case 19 -> x.drawn(a[0]);
      case 20 -> x.chance(a[0], a[1], a[2]);
      case 21 -> x.image();
      case 22 -> x.back();
      case 23 -> x.count(a[0]);
      case 24 -> x.sheet(a[0], a[1], a[2]);
      case 25 -> x.cell(a[0], a[1], a[2]);
      case 26 -> x.copy(a[0], a[1], a[2], a[3], a[4]);
      case 27 -> x.likings(a[0], a[1], a[2], a[3]);
      default -> x.taken(a[0], a[1]);
    };
  }

  private long onModel(int which, int[] a) {
    Model x = model;
    return switch (which) {
      case 0 -> x.man(a[0]);
      case 1 -> x.maid(a[0], a[1]);
      case 2 -> x.likes(a[0], a[1], a[2], a[3]);
      case 3 -> x.set(a[0], a[1], a[2]);
      case 4 -> x.told(a[0], a[1], a[2]);
      case 5 -> x.of(a[0], a[1]);
      case 6 -> x.feed(a[0]);
      case 7 -> x.text();
      case 8 -> x.force(a[0]);
      case 9 -> x.ask(a[0], a[1]);
      case 10 -> x.part(a[0]);
      case 11 -> x.way(a[0], a[1], a[2], a[3]);
      case 12 -> x.mistake(a[0]);
      case 13 -> x.sure(a[0]);
      case 14 -> x.pairings(a[0]);
      case 15 -> x.best(a[0], a[1]);
      case 16 -> x.row(a[0]);
      case 17 -> x.year(a[0], a[1]);
      case 18 -> x.judge(a[0], a[1]);
      case 19 -> x.drawn(a[0]);
      case 20 -> x.chance(a[0], a[1], a[2]);
      case 21 -> x.image();
      case 22 -> x.back();
      case 23 -> x.count(a[0]);
      case 24 -> x.sheet(a[0], a[1], a[2]);
      case 25 -> x.cell(a[0], a[1], a[2]);
      case 26 -> x.copy(a[0], a[1], a[2], a[3], a[4]);
      case 27 -> x.likings(a[0], a[1], a[2], a[3]);
      default -> x.taken(a[0], a[1]);
    };
  }

  /** A number 0 .. most, now and then one outside or far outside. */
  private int upTo(int most) {
    switch (random.nextInt(60)) {
      case 0:
        return most + 1;
      case 1:
        return -1;
      case 2:
        return new int[] {Integer.MIN_VALUE, Integer.MAX_VALUE, -2, 256, 1 << 16}[random.nextInt(5)];
      default:
        return random.nextInt(most + 1);
    }
  }

  private int person() {
    return upTo(random.nextInt(6) == 0 ? 3 : Math.max(0, Math.min(model.count(0), model.count(1)) - 1));
  }

  private int liking() {
    int[] edges = {0, 9, 10, 29, 30, 31, 49, 50, 51, 69, 70, 99};
    return random.nextBoolean() ? upTo(99) : edges[random.nextInt(edges.length)];
  }

  private void callAny(int which) {
    switch (which) {
      case 0 -> call(0, upTo(9));
      case 1 -> call(1, upTo(5), upTo(9));
      case 2 -> call(2, person(), person(), upTo(1), liking());
      case 3 -> call(3, upTo(2), person(), random.nextBoolean() ? upTo(4) : liking());
      case 4 -> call(4, person(), person(), upTo(5));
      case 5 -> call(5, person(), upTo(6));
      case 6 -> call(6, upTo(255));
      case 7 -> call(7);
      case 8 -> call(8, upTo(random.nextBoolean() ? model.count(4) - 1 : 5));
      case 9 -> call(9, person(), person());
      case 10 -> call(10, person());
      case 11 -> call(11, person(), person(), upTo(1), upTo(5));
      case 12 -> call(12, person());
      case 13 -> call(13, person());
      case 14 -> call(14, upTo(1));
      case 15 -> call(15, upTo(1), random.nextInt(3) == 0 ? -1 : person());
      case 16 -> call(16, upTo(3));
      case 17 -> call(17, upTo(12), upTo(6));
      case 18 -> call(18, upTo(3), upTo(1));
      case 19 -> call(19, random.nextInt());
      case 20 -> call(20, random.nextInt(), upTo(4), upTo(1));
      case 21 -> call(21);
      case 22 -> call(22);
      case 23 -> call(23, upTo(6));
      case 24 -> call(24, upTo(3), upTo(2), random.nextInt(3) == 0 ? model.count(0) : upTo(40));
      case 25 -> call(25, upTo(3), upTo(12), random.nextInt(4) == 0 ? random.nextInt() : upTo(3));
      case 26 -> call(26, upTo(3), upTo(9), upTo(3), upTo(9), upTo(9));
      case 27 -> call(27, upTo(3), upTo(2), upTo(9), upTo(10));
      default -> call(28, person(), upTo(5));
    }
  }

  /** A SHEET that tells a row, a story or likings. */
  private void laySheet() {
    int sheet = random.nextInt(4);
    int sort = random.nextInt(3);
    int use = random.nextInt(3);
    int n = use == 0 ? model.count(0) : use == 1 ? 3 * random.nextInt(6) : 4 * random.nextInt(5);
    call(24, sheet, sort, n);
    for (int i = 0; i < n; i++) {
      boolean number = use == 0 || i % (use + 2) < 2;
      int item = number ? random.nextInt(use == 0 ? 5 : 4) - (use == 0 ? 1 : 0)
          : use == 1 || i % 4 == 2 ? random.nextInt(2) : liking();
      call(25, sheet, i, random.nextInt(40) == 0 ? random.nextInt() : item);
    }
    call(16, sheet);
    call(18, sheet, 0);
    call(18, sheet, 1);
    call(27, sheet, sort, 0, n / 4);
  }

  private void feedText() {
    call(7);
    StringBuilder text = new StringBuilder();
    for (String key : new String[] {"takes", "worth", "wants"}) {
      text.append(key).append(' ');
      either(text, 3);
      text.append(';');
      blanks(text);
    }
    if (random.nextInt(3) == 0 && text.length() > 0) {
      spoil(text);
    }
    for (int i = 0; i < text.length() && i < 162; i++) {
      call(6, text.charAt(i));
    }
    call(7);
    call(8, model.count(4) - 1);
    for (int what = 3; what < 6; what++) {
      call(4, person(), person(), what);
    }
  }

  private void spoil(StringBuilder text) {
    String[] spoilt = {"(", ")", "not ", "-", "12345", "x", "or ", ";", "<", "=", "\t", "like ", "--",
        "((", "not not ", "1", "Z", "+", "*", "" + (char) 200};
    int at = random.nextInt(text.length() + 1);
    if (random.nextBoolean()) {
      text.insert(at, spoilt[random.nextInt(spoilt.length)]);
    } else if (random.nextBoolean() && at < text.length()) {
      text.deleteCharAt(at);
    } else {
      text.setLength(at);
    }
  }

  private void blanks(StringBuilder text) {
    if (random.nextInt(8) == 0) {
      text.append(random.nextBoolean() ? ' ' : '\n');
    }
  }

  private void either(StringBuilder text, int deep) {
    both(text, deep);
    if (random.nextInt(6) == 0) {
      text.append(" or ");
      both(text, deep);
    }
  }

  private void both(StringBuilder text, int deep) {
    negated(text, deep);
    if (random.nextInt(6) == 0) {
      text.append(" and ");
      negated(text, deep);
    }
  }

  private void negated(StringBuilder text, int deep) {
    if (random.nextInt(6) == 0) {
      text.append(" not ");
      negated(text, deep);
      return;
    }
    sum(text, deep);
    if (random.nextInt(4) == 0) {
      text.append(random.nextInt(3) == 0 ? '=' : '<');
      sum(text, deep);
    }
  }

  private void sum(StringBuilder text, int deep) {
    term(text, deep);
    while (random.nextInt(4) == 0) {
      text.append(random.nextBoolean() ? '+' : '-');
      term(text, deep);
    }
  }

  private void term(StringBuilder text, int deep) {
    one(text, deep);
    while (random.nextInt(5) == 0) {
      text.append('*');
      one(text, deep);
    }
  }

  private void one(StringBuilder text, int deep) {
    blanks(text);
    int pick = random.nextInt(deep > 0 ? 8 : 6);
    if (pick < 3) {
      text.append(random.nextInt(random.nextInt(5) == 0 ? 9999 : 60));
    } else if (pick < 6) {
      text.append(new String[] {"like", "hers", "noes", "month", "man", "maid"}[random.nextInt(6)]);
    } else if (pick == 6) {
      text.append('-');
      one(text, deep - 1);
    } else {
      text.append('(');
      either(text, deep - 1);
      text.append(')');
    }
    blanks(text);
  }
}
