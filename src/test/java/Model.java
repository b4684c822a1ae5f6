import java.util.ArrayList;
import java.util.Comparator;
import java.util.List;

/**
 * The document told a second time, by other means than the program's: rows are listed and sorted,
 * texts are kept as tokens and cut at their weakest joint, faults are found by what is open.
 */
final class Model {
  private static final int NONE = -1, BAD = -2, STATE = -3, FULL = -4;

  /** What AN IMAGE keeps. */
  private static final class State {
    List<Integer> noes = new ArrayList<>();
    List<Integer> wives = new ArrayList<>();
    List<int[]> maids = new ArrayList<>();
    int[][][] liking = new int[2][4][4];
    int month = 0;
    int rule = 0;

    State copy() {
      State s = new State();
      s.noes.addAll(noes);
      s.wives.addAll(wives);
      for (int[] maid : maids) {
        s.maids.add(maid.clone());
      }
      for (int what = 0; what < 2; what++) {
        for (int man = 0; man < 4; man++) {
          s.liking[what][man] = liking[what][man].clone();
        }
      }
      s.month = month;
      s.rule = rule;
      return s;
    }
  }

  private State now = new State();
  private State image = null;
  private final StringBuilder tape = new StringBuilder();
  private final List<List<List<String>>> texts = new ArrayList<>();
  private final int[] sorts = {-1, -1, -1, -1};
  private final int[][] sheets = new int[4][];

  Model() {
    texts.add(parts(tokens("takes 1 ; worth like + hers - 50 ; wants 30 < like ;", new ArrayList<>())));
  }

  // ---- men, maids

  int man(int noes) {
    if (noes < 0 || noes > 9) {
      return BAD;
    }
    if (now.noes.size() == 4) {
      return FULL;
    }
    int man = now.noes.size();
    now.noes.add(noes);
    now.wives.add(NONE);
    for (int maid = 0; maid < 4; maid++) {
      now.liking[0][man][maid] = 50;
      now.liking[1][man][maid] = 50;
    }
    return man;
  }

  int maid(int kind, int number) {
    if (kind < 0 || kind > 5 || number < 0 || number > 9) {
      return BAD;
    }
    if (now.maids.size() == 4) {
      return FULL;
    }
    int maid = now.maids.size();
    now.maids.add(new int[] {kind, number});
    for (int man = 0; man < 4; man++) {
      now.liking[0][man][maid] = 50;
      now.liking[1][man][maid] = 50;
    }
    return maid;
  }

  private boolean noMan(int man) {
    return man < 0 || man >= now.noes.size();
  }

  private boolean noMaid(int maid) {
    return maid < 0 || maid >= now.maids.size();
  }

  int likes(int man, int maid, int what, int v) {
    if (noMan(man) || noMaid(maid) || what < 0 || what > 1 || v < 0 || v > 99) {
      return BAD;
    }
    int was = now.liking[what][man][maid];
    now.liking[what][man][maid] = v;
    return was;
  }

  int set(int what, int of, int v) {
    if (what == 0 && !noMan(of) && v >= 0 && v <= 9) {
      return now.noes.set(of, v);
    }
    if (what == 1 && !noMaid(of) && v >= 0 && v <= 9) {
      int was = now.maids.get(of)[1];
      now.maids.get(of)[1] = v;
      return was;
    }
    if (what == 2 && v >= 0 && v <= 99) {
      int was = now.month;
      now.month = v;
      return was;
    }
    return BAD;
  }

  int told(int man, int maid, int what) {
    if (noMan(man) || noMaid(maid) || what < 0 || what > 5) {
      return BAD;
    }
    int[] answers = {now.liking[0][man][maid], now.liking[1][man][maid],
        mayAsk(now, man, maid) ? 1 : 0, saysNo(now, man, maid) ? 1 : 0, worth(now, man, maid),
        part(now, man, maid, 2) != 0 ? 1 : 0};
    return answers[what];
  }

  int of(int number, int what) {
    if (what < 0 || what > 6 || (what < 5 ? noMaid(number) : noMan(number))) {
      return BAD;
    }
    if (what == 5) {
      return now.noes.get(number);
    }
    if (what == 6) {
      return now.wives.get(number);
    }
    int[] maid = now.maids.get(number);
    return new int[] {maid[0], maid[1], needs(maid[0], maid[1]),
        Math.max(0, price(maid[0], maid[1])), now.wives.indexOf(number)}[what];
  }

  private static int needs(int kind, int number) {
    return switch (kind) {
      case 0 -> 1;
      case 1 -> 0;
      case 2 -> needs(0, number) + number % 3;
      case 3 -> needs(2, number) + 1;
      case 4 -> needs(1, number);
      default -> number % 2 == 0 ? 0 : needs(0, number);
    };
  }

  private static boolean refuses(int kind, int number, int s, int k) {
    return switch (kind) {
      case 0 -> s < 50;
      case 1 -> refuses(0, number, s, k) && s < 10 * number;
      case 2 -> refuses(0, number, s, k) || k > 2;
      case 3 -> refuses(2, number, s, k) || s < 70;
      case 4 -> true;
      default -> (k + number) % 2 == 1;
    };
  }

  private static int price(int kind, int number) {
    return switch (kind) {
      case 0 -> number;
      case 1 -> price(0, number) + 5;
      case 2 -> price(0, number) * 2;
      case 3 -> price(2, number) - 3;
      case 4 -> 0;
      default -> price(0, number) + 1;
    };
  }

  // ---- texts

  int feed(int letter) {
    if (letter < 0 || letter > 255) {
      return BAD;
    }
    if (tape.length() == 160) {
      return FULL;
    }
    tape.append((char) letter);
    return tape.length();
  }

  int text() {
    if (texts.size() == 6) {
      return FULL;
    }
    String text = tape.toString();
    tape.setLength(0);
    List<Integer> places = new ArrayList<>();
    List<String> tokens = tokens(text, places);
    int fault = fault(tokens);
    if (fault >= 0) {
      return -100 - (fault < places.size() ? places.get(fault) : text.length());
    }
    texts.add(parts(tokens));
    return texts.size() - 1;
  }

  int force(int text) {
    if (text < 0 || text >= texts.size()) {
      return BAD;
    }
    int was = now.rule;
    now.rule = text;
    return was;
  }

  private static List<String> tokens(String text, List<Integer> places) {
    java.util.regex.Matcher m = java.util.regex.Pattern
        .compile("[a-z]+|[0-9]+|[^ \\n]", java.util.regex.Pattern.DOTALL).matcher(text);
    List<String> tokens = new ArrayList<>();
    while (m.find()) {
      tokens.add(m.group());
      places.add(m.start());
    }
    return tokens;
  }

  private static List<List<String>> parts(List<String> tokens) {
    List<List<String>> parts = new ArrayList<>();
    List<String> part = new ArrayList<>();
    for (String token : tokens) {
      if (token.equals(";")) {
        parts.add(part.subList(1, part.size()));
        part = new ArrayList<>();
      } else {
        part.add(token);
      }
    }
    return parts;
  }

  private static boolean isThing(String token) {
    return token.matches("[0-9]{1,4}|like|hers|noes|month|man|maid");
  }

  /** The number of the first token that can't stand where it stands; -1: they are a TEXT. */
  private static int fault(List<String> tokens) {
    int at = 0;
    for (String key : new String[] {"takes", "worth", "wants"}) {
      if (at == tokens.size() || !tokens.get(at).equals(key)) {
        return at;
      }
      at++;
      List<Character> open = new ArrayList<>();
      List<Boolean> outer = new ArrayList<>();
      boolean thingDue = true;
      boolean notMay = true;
      boolean compared = false;
      for (;; at++) {
        if (at == tokens.size()) {
          return at;
        }
        String t = tokens.get(at);
        if (thingDue) {
          boolean opens = t.equals("(") || t.equals("-") || t.equals("not") && notMay;
          if (opens && open.size() < 5) {
            open.add(t.charAt(0));
            notMay = !t.equals("-");
            if (t.equals("(")) {
              outer.add(compared);
              compared = false;
            }
          } else if (isThing(t)) {
            thingDue = false;
            closeAll(open, '-');
          } else {
            return at;
          }
        } else if (t.equals("+") || t.equals("-") || t.equals("*")) {
          thingDue = true;
          notMay = false;
        } else if ((t.equals("<") || t.equals("=")) && !compared) {
          thingDue = true;
          notMay = false;
          compared = true;
        } else if (t.equals("or") || t.equals("and")) {
          closeAll(open, 'n');
          thingDue = true;
          notMay = true;
          compared = false;
        } else if (t.equals(")") && open.contains('(')) {
          closeAll(open, 'n');
          open.remove(open.size() - 1);
          compared = outer.remove(outer.size() - 1);
          closeAll(open, '-');
        } else if (t.equals(";") && !open.contains('(')) {
          at++;
          break;
        } else {
          return at;
        }
      }
    }
    return at < tokens.size() ? at : -1;
  }

  private static void closeAll(List<Character> open, char what) {
    while (!open.isEmpty() && open.get(open.size() - 1) == what) {
      open.remove(open.size() - 1);
    }
  }

  private static int value(List<String> e, int[] names) {
    int or = joint(e, false, "or");
    if (or > 0) {
      return value(e.subList(0, or), names) != 0 | value(rest(e, or), names) != 0 ? 1 : 0;
    }
    int and = joint(e, false, "and");
    if (and > 0) {
      return value(e.subList(0, and), names) != 0 & value(rest(e, and), names) != 0 ? 1 : 0;
    }
    if (e.get(0).equals("not")) {
      return value(rest(e, 0), names) == 0 ? 1 : 0;
    }
    int compare = joint(e, false, "<", "=");
    if (compare > 0) {
      int a = value(e.subList(0, compare), names);
      int b = value(rest(e, compare), names);
      return (e.get(compare).equals("<") ? a < b : a == b) ? 1 : 0;
    }
    int sum = joint(e, true, "+", "-");
    if (sum > 0) {
      int a = value(e.subList(0, sum), names);
      int b = value(rest(e, sum), names);
      return e.get(sum).equals("+") ? a + b : a - b;
    }
    int times = joint(e, true, "*");
    if (times > 0) {
      return value(e.subList(0, times), names) * value(rest(e, times), names);
    }
    if (e.get(0).equals("-")) {
      return -value(rest(e, 0), names);
    }
    if (e.get(0).equals("(")) {
      return value(e.subList(1, e.size() - 1), names);
    }
    int name = List.of("like", "hers", "noes", "month", "man", "maid").indexOf(e.get(0));
    return name >= 0 ? names[name] : Integer.parseInt(e.get(0));
  }

  private static List<String> rest(List<String> e, int at) {
    return e.subList(at + 1, e.size());
  }

  /** Where one of these joins two things outside all brackets: the first place, or the last. */
  private static int joint(List<String> e, boolean last, String... joints) {
    int found = -1;
    int depth = 0;
    for (int i = 0; i < e.size(); i++) {
      String t = e.get(i);
      depth += t.equals("(") ? 1 : t.equals(")") ? -1 : 0;
      boolean behindThing = i > 0 && (isThing(e.get(i - 1)) || e.get(i - 1).equals(")"));
      if (depth == 0 && behindThing && List.of(joints).contains(t) && (last || found < 0)) {
        found = i;
      }
    }
    return found;
  }

  // ---- askings

  private int part(State s, int man, int maid, int part) {
    int[] names = {s.liking[0][man][maid], s.liking[1][man][maid], s.noes.get(man), s.month, man, maid};
    return value(texts.get(s.rule).get(part), names);
  }

  private int worth(State s, int man, int maid) {
    int worth = part(s, man, maid, 1);
    return worth < 0 ? 0 : worth > 99 ? 99 : worth;
  }

  private boolean mayAsk(State s, int man, int maid) {
    int[] her = s.maids.get(maid);
    return s.wives.get(man) == NONE && !s.wives.contains(maid) && s.noes.get(man) >= needs(her[0], her[1]);
  }

  private boolean saysNo(State s, int man, int maid) {
    int[] her = s.maids.get(maid);
    return refuses(her[0], her[1], s.liking[1][man][maid], s.noes.get(man)) || part(s, man, maid, 0) == 0;
  }

  private void end(State s, int man, int maid, boolean no) {
    if (no) {
      s.noes.set(man, Math.min(9, s.noes.get(man) + 1));
    } else {
      s.wives.set(man, maid);
    }
    s.month = Math.min(99, s.month + 1);
  }

  int ask(int man, int maid) {
    if (noMan(man) || noMaid(maid)) {
      return BAD;
    }
    if (!mayAsk(now, man, maid)) {
      return STATE;
    }
    boolean no = saysNo(now, man, maid);
    end(now, man, maid, no);
    return no ? 0 : 1;
  }

  int part(int man) {
    if (noMan(man)) {
      return BAD;
    }
    return now.wives.get(man) == NONE ? STATE : now.wives.set(man, NONE);
  }

  int way(int man, int maid, int sort, int what) {
    if (noMan(man) || noMaid(maid) || sort < 0 || sort > 1 || what < 0 || what > 5) {
      return BAD;
    }
    List<List<Integer>> rows = new ArrayList<>();
    allRows(maid, new ArrayList<>(), rows);
    rows.removeIf(row -> !lets(row, man, maid));
    Comparator<List<Integer>> order = Comparator.comparingInt(row -> sort == 0 ? row.size() : prices(row));
    rows.sort(order.thenComparing(row -> row.toString().replaceAll("[^0-9]", "")));
    if (rows.isEmpty()) {
      return NONE;
    }
    List<Integer> row = rows.get(0);
    return what == 0 ? row.size() : what == 1 ? prices(row) : what - 2 < row.size() ? row.get(what - 2) : NONE;
  }

  private void allRows(int without, List<Integer> row, List<List<Integer>> rows) {
    rows.add(new ArrayList<>(row));
    for (int maid = now.maids.size() - 1; maid >= 0; maid--) {
      if (maid != without && !row.contains(maid)) {
        row.add(maid);
        allRows(without, row, rows);
        row.remove(row.size() - 1);
      }
    }
  }

  private boolean lets(List<Integer> row, int man, int maid) {
    State s = now.copy();
    for (int asked : row) {
      if (!mayAsk(s, man, asked) || !saysNo(s, man, asked)) {
        return false;
      }
      end(s, man, asked, true);
    }
    return mayAsk(s, man, maid);
  }

  private int prices(List<Integer> row) {
    int sum = 0;
    for (int maid : row) {
      sum += of(maid, 3);
    }
    return sum;
  }

  int mistake(int man) {
    if (noMan(man)) {
      return BAD;
    }
    for (int liked = 0; liked <= 99; liked++) {
      for (int maid = 0; maid < now.maids.size(); maid++) {
        if (now.liking[0][man][maid] == liked && mayAsk(now, man, maid) && !saysNo(now, man, maid)) {
          return maid;
        }
      }
    }
    return NONE;
  }

  int sure(int man) {
    if (noMan(man)) {
      return BAD;
    }
    int bits = 0;
    for (int maid = 0; maid < now.maids.size(); maid++) {
      boolean sure = mayAsk(now, man, maid);
      for (int noes = now.noes.get(man); noes <= 9; noes++) {
        State s = now.copy();
        s.noes.set(man, noes);
        sure &= saysNo(s, man, maid);
      }
      bits += sure ? 1 << maid : 0;
    }
    return bits;
  }

  // ---- pairings

  /** 0 no row, 1 a row, 2 LAWFUL, 3 STEADY. */
  private int rank(State s, int[] row) {
    for (int a = 0; a < row.length; a++) {
      if (row[a] < -1 || row[a] >= s.maids.size()) {
        return 0;
      }
      for (int b = 0; b < a; b++) {
        if (row[a] == row[b] && row[a] != NONE) {
          return 0;
        }
      }
    }
    for (int man = 0; man < row.length; man++) {
      if (row[man] != NONE && saysNo(s, man, row[man])) {
        return 1;
      }
    }
    for (int man = 0; man < row.length; man++) {
      for (int maid = 0; maid < s.maids.size(); maid++) {
        int hisOwn = row[man] == NONE ? -1 : s.liking[0][man][row[man]];
        int hersOwn = -1;
        for (int other = 0; other < row.length; other++) {
          hersOwn = row[other] == maid ? s.liking[1][other][maid] : hersOwn;
        }
        if (row[man] != maid && !saysNo(s, man, maid) && s.liking[0][man][maid] > hisOwn
            && s.liking[1][man][maid] > hersOwn) {
          return 2;
        }
      }
    }
    return 3;
  }

  private List<int[]> rows(State s, int sort) {
    int men = s.noes.size();
    int base = s.maids.size() + 1;
    List<int[]> rows = new ArrayList<>();
    for (int code = 0; code < Math.pow(base, men); code++) {
      int[] row = new int[men];
      int left = code;
      for (int man = men - 1; man >= 0; man--) {
        row[man] = left % base - 1;
        left /= base;
      }
      if (rank(s, row) >= 2 + sort) {
        rows.add(row);
      }
    }
    return rows;
  }

  int pairings(int sort) {
    return sort < 0 || sort > 1 ? BAD : rows(now, sort).size();
  }

  int best(int sort, int man) {
    if (sort < 0 || sort > 1 || man != NONE && noMan(man)) {
      return BAD;
    }
    int most = -1;
    int[] best = null;
    for (int[] row : rows(now, sort)) {
      int content = 0;
      for (int i = 0; i < row.length; i++) {
        content += row[i] == NONE ? 0 : worth(now, i, row[i]);
      }
      if (content > most) {
        most = content;
        best = row;
      }
    }
    return best == null ? STATE : man == NONE ? most : best[man];
  }

  private boolean noSheet(int sheet) {
    return sheet < 0 || sheet > 3;
  }

  int row(int sheet) {
    if (noSheet(sheet)) {
      return BAD;
    }
    if (sheets[sheet] == null) {
      return -11;
    }
    return sheets[sheet].length != now.noes.size() ? BAD : rank(now, sheets[sheet]);
  }

  int year(int n, int what) {
    if (n < 0 || n > 12 || what < 0 || what > 6) {
      return BAD;
    }
    State s = now.copy();
    int askings = 0;
    int prices = 0;
    for (int turn = 0; turn < n * s.noes.size(); turn++) {
      int man = turn % s.noes.size();
      int whom = NONE;
      for (int maid = s.maids.size() - 1; maid >= 0; maid--) {
        if (mayAsk(s, man, maid) && part(s, man, maid, 2) != 0
            && (whom == NONE || s.liking[0][man][maid] >= s.liking[0][man][whom])) {
          whom = maid;
        }
      }
      if (whom != NONE) {
        boolean no = saysNo(s, man, whom);
        prices += no ? of(whom, 3) : 0;
        askings++;
        end(s, man, whom, no);
      }
    }
    int married = 0;
    for (int wife : s.wives) {
      married += wife == NONE ? 0 : 1;
    }
    return what == 0 ? married : what == 1 ? askings : what == 2 ? prices
        : what - 3 < s.wives.size() ? s.wives.get(what - 3) : NONE;
  }

  int judge(int sheet, int what) {
    if (noSheet(sheet) || what < 0 || what > 1) {
      return BAD;
    }
    int[] items = sheets[sheet];
    if (items == null) {
      return -11;
    }
    if (items.length % 3 != 0) {
      return BAD;
    }
    State s = now.copy();
    int wrong = 0;
    int first = NONE;
    for (int i = 0; i < items.length / 3 && first == NONE; i++) {
      int man = items[3 * i];
      int maid = items[3 * i + 1];
      int took = items[3 * i + 2];
      if (noMan(man) || noMaid(maid) || took != 0 && took != 1 || !mayAsk(s, man, maid)) {
        first = i;
      } else {
        wrong += (saysNo(s, man, maid) ? 0 : 1) == took ? 0 : 1;
        end(s, man, maid, took == 0);
      }
    }
    return what == 0 ? first : wrong;
  }

  int drawn(int seed) {
    State s = now.copy();
    int z = seed;
    for (int man = 0; man < s.noes.size(); man++) {
      for (int maid = 0; maid < s.maids.size(); maid++) {
        z = z * 1103515245 + 12345;
        s.liking[1][man][maid] = (int) (((z & 0xffffffffL) >> 9) % 100);
      }
    }
    return rows(s, 1).size();
  }

  long chance(int seed, int n, int part) {
    if (n < 1 || n > 20 || part < 0 || part > 1) {
      return -4611686018427387904L;
    }
    int any = 0;
    for (int i = 0; i < n; i++) {
      any += drawn(seed + i) > 0 ? 1 : 0;
    }
    int gcd = java.math.BigInteger.valueOf(any).gcd(java.math.BigInteger.valueOf(n)).intValue();
    return (part == 0 ? any : n) / gcd;
  }

  int image() {
    image = now.copy();
    return now.noes.size();
  }

  int back() {
    if (image == null) {
      return STATE;
    }
    now = image.copy();
    return now.noes.size();
  }

  int count(int what) {
    if (what < 0 || what > 6) {
      return BAD;
    }
    return new int[] {now.noes.size(), now.maids.size(), year(0, 0), now.month, texts.size(),
        tape.length(), now.rule}[what];
  }

  // ---- the host

  int sheet(int sheet, int sort, int n) {
    if (noSheet(sheet) || sort < -1 || sort > 2 || sort >= 0 && n > 40) {
      return BAD;
    }
    if (sort >= 0 && n < 0) {
      return -14;
    }
    sorts[sheet] = sort;
    sheets[sheet] = sort < 0 ? null : new int[n];
    return 1;
  }

  int cell(int sheet, int i, int v) {
    if (noSheet(sheet)) {
      return BAD;
    }
    if (sheets[sheet] == null) {
      return -11;
    }
    if (i < 0 || i >= sheets[sheet].length) {
      return -12;
    }
    int drop = sorts[sheet] == 0 ? 24 : sorts[sheet] == 1 ? 16 : 0;
    sheets[sheet][i] = v << drop >> drop;
    return 1;
  }

  int copy(int sheet, int i, int other, int j, int n) {
    if (noSheet(sheet) || noSheet(other)) {
      return BAD;
    }
    if (sheets[sheet] == null || sheets[other] == null) {
      return -11;
    }
    if (sorts[sheet] != sorts[other]) {
      return -13;
    }
    if (n < 0 || i < 0 || j < 0 || (long) i + n > sheets[sheet].length || (long) j + n > sheets[other].length) {
      return -12;
    }
    int[] was = sheets[sheet].clone();
    for (int k = 0; k < n; k++) {
      sheets[other][j + k] = was[i + k];
    }
    return n;
  }

  int likings(int sheet, int sort, int from, int n) {
    if (noSheet(sheet) || sort < 0 || sort > 2 || n < 0 || n > 10) {
      return BAD;
    }
    if (sheets[sheet] != null && sorts[sheet] != sort) {
      return -13;
    }
    if (sheets[sheet] == null) {
      return -11;
    }
    int became = 0;
    for (int k = 0; k < n; k++) {
      int[] four = new int[4];
      for (int i = 0; i < 4; i++) {
        long at = (long) from + 4 * k + i;
        if (at < 0 || at >= sheets[sheet].length) {
          return -12;
        }
        four[i] = sheets[sheet][(int) at];
      }
      became += likes(four[0], four[1], four[2], four[3]) == BAD ? 0 : 1;
    }
    return became;
  }

  int taken(int maid, int k) {
    if (k < 0 || k > 5) {
      return BAD;
    }
    if (noMaid(maid)) {
      return -11;
    }
    String[] above = {"0", "10", "20", "320", "410", "50"};
    return above[now.maids.get(maid)[0]].contains("" + k) ? now.maids.get(maid)[1] : -13;
  }
}
