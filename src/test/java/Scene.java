import java.lang.reflect.InvocationTargetException;
import java.lang.reflect.Method;
import java.util.ArrayList;
import java.util.HashMap;
import java.util.List;
import java.util.Map;

/**
 * One sentence of a promise, looked at by calls on an object that is new at first. Calls are told as
 * they are written ("man(9)"), so that they can be made again: what changes nothing is made on one of
 * two objects alike, and all that can be read of both must be the same behind it.
 */
final class Scene {
  private static final int MIN = Integer.MIN_VALUE, MAX = Integer.MAX_VALUE;
  private static final Map<String, Method> METHODS = methods();

  private final Due due;
  private final String sentence;
  private final RefusedMayAsk town = new RefusedMayAsk();
  private final List<String> before = new ArrayList<>();

  Scene(Due due, int promise, String sentence) {
    this.due = due;
    this.sentence = "promise " + promise + ", '" + sentence + "': ";
  }

  /** A scene in which everything is there already, and nothing as it was at first. */
  static Scene rich(Due due, int promise, String sentence) {
    Scene s = new Scene(due, promise, sentence);
    s.first("man(1)", "man(4)", "maid(1, 3)", "maid(2, 4)");
    s.first("likes(0, 1, 0, 11)", "likes(1, 0, 1, 62)", "set(2, 0, 30)");
    s.read("takes 1;worth like;wants noes<3;", 1);
    s.first("image()");
    s.first("likes(0, 1, 0, 12)", "likes(1, 1, 1, 71)", "set(0, 1, 2)", "set(1, 0, 2)", "force(1)");
    s.first("ask(0, 0)", "man(0)", "maid(4, 9)");
    s.lay(0, 0, 5, 6, 7, 8);
    s.lay(1, 1, 1, 2, 0, 0, 1, 1);
    s.lay(2, 2, 0, 0, 0, 77, 1, 1, 1, 88);
    s.fed("takes 1;worth 4");
    return s;
  }

  /** Calls that come first, whatever they answer. */
  Scene first(String... calls) {
    for (String call : calls) {
      make(town, call);
      before.add(call);
    }
    return this;
  }

  /** That call is made, and answers that. */
  Scene is(String call, long want) {
    due.is(sentence + call, make(town, call), want);
    before.add(call);
    return this;
  }

  /** That call is refused so, and nothing has changed behind it. */
  Scene refused(String call, long want) {
    return still(call, want);
  }

  /** That call answers so in thought: nothing has changed behind it. */
  Scene still(String call, long want) {
    due.is(sentence + call, make(town, call), want);
    Reading without = again();
    Reading with = again();
    make(with.town, call);
    due.holds(sentence + "nothing changed behind " + call, with.all().equals(without.all()));
    due.holds(sentence + "512 calls at most", with.calls + before.size() < 512);
    return this;
  }

  /** All numbers that are told outside of these two, at the place of the % in that call. */
  Scene outside(String call, int least, int most, long want) {
    int[] tried = {least - 1, most + 1, MIN, MAX, least + 256, most - 256, least + 65536, -most - 2};
    for (int v : tried) {
      if (v < least || v > most) {
        refused(call.replace("%", "" + v), want);
      }
    }
    return this;
  }

  Scene fed(String text) {
    for (int i = 0; i < text.length(); i++) {
      first("feed(" + (int) text.charAt(i) + ")");
    }
    return this;
  }

  /** A text is fed and read, and that answers so. */
  Scene read(String text, long want) {
    fed(text);
    due.is(sentence + "text() of '" + text + "'", make(town, "text()"), want);
    before.add("text()");
    return this;
  }

  /** A SHEET of a sort with these items. */
  Scene lay(int sheet, int sort, int... items) {
    first("sheet(" + sheet + ", " + sort + ", " + items.length + ")");
    for (int i = 0; i < items.length; i++) {
      first("cell(" + sheet + ", " + i + ", " + items[i] + ")");
    }
    return this;
  }

  private Reading again() {
    RefusedMayAsk other = new RefusedMayAsk();
    for (String call : before) {
      make(other, call);
    }
    return new Reading(other);
  }

  private static Map<String, Method> methods() {
    Map<String, Method> methods = new HashMap<>();
    for (Method method : RefusedMayAsk.class.getMethods()) {
      if (method.getDeclaringClass() == RefusedMayAsk.class) {
        methods.put(method.getName(), method);
      }
    }
    return methods;
  }

  /** Makes a call as it is written; its numbers may be MIN, MAX and NONE, too. */
  static long make(RefusedMayAsk town, String call) {
    int open = call.indexOf('(');
    String inside = call.substring(open + 1, call.length() - 1).trim();
    String[] told = inside.isEmpty() ? new String[0] : inside.split(",");
    Object[] numbers = new Object[told.length];
    for (int i = 0; i < told.length; i++) {
      numbers[i] = number(told[i].trim());
    }
    try {
      return ((Number) METHODS.get(call.substring(0, open)).invoke(town, numbers)).longValue();
    } catch (IllegalAccessException | InvocationTargetException e) {
      throw new IllegalStateException(call, e);
    }
  }

  private static int number(String told) {
    return switch (told) {
      case "MIN" -> MIN;
      case "MAX" -> MAX;
      case "NONE" -> RefusedMayAsk.NONE;
      default -> Integer.parseInt(told);
    };
  }

  /** All that can be read of an object, which is used up by that. */
  private static final class Reading {
    private static final int SCRATCH = 3, MOST_ITEMS = 8;
    final RefusedMayAsk town;
    int calls = 0;
    private final List<Long> answers = new ArrayList<>();
    private final int[] sorts = new int[4];
    private final int[] sizes = new int[4];

    Reading(RefusedMayAsk town) {
      this.town = town;
    }

    List<Long> all() {
      people();
      for (int sheet = 0; sheet < 4; sheet++) {
        shapeOf(sheet);
      }
      take("man(0)");
      take("maid(0, 0)");
      for (int sheet = 0; sheet < SCRATCH; sheet++) {
        itemsOf(sheet);
      }
      tape();
      texts();
      take("back()");
      people();
      return answers;
    }

    private long take(String call) {
      calls++;
      answers.add(make(town, call));
      return answers.get(answers.size() - 1);
    }

    private void people() {
      for (int what = 0; what < 7; what++) {
        take("count(" + what + ")");
      }
      for (int one = 0; one < 4; one++) {
        for (int what : new int[] {0, 1, 4, 5, 6}) {
          take("of(" + one + ", " + what + ")");
        }
        for (int other = 0; other < 4; other++) {
          take("told(" + one + ", " + other + ", 0)");
          take("told(" + one + ", " + other + ", 1)");
        }
      }
    }

    /** Its sort and size, whether it is a row, what it tells as a year. */
    private void shapeOf(int sheet) {
      sorts[sheet] = -1;
      for (int sort = 0; sort < 3; sort++) {
        if (take("likings(" + sheet + ", " + sort + ", 0, 0)") == 0) {
          sorts[sheet] = sort;
        }
      }
      sizes[sheet] = 0;
      for (int step = 32; step > 0; step /= 2) {
        int tried = sizes[sheet] + step;
        if (take("copy(" + sheet + ", " + tried + ", " + sheet + ", " + tried + ", 0)") == 0) {
          sizes[sheet] = tried;
        }
      }
      take("row(" + sheet + ")");
      take("judge(" + sheet + ", 0)");
      take("judge(" + sheet + ", 1)");
    }

    /** Items 0 .. 99 of a SHEET, each seen as how he 0 likes her 0 then; others are seen as others. */
    private void itemsOf(int sheet) {
      for (int i = 0; i < sizes[sheet] && i < MOST_ITEMS; i++) {
        take("sheet(" + SCRATCH + ", " + sorts[sheet] + ", 4)");
        take("copy(" + sheet + ", " + i + ", " + SCRATCH + ", 3, 1)");
        take("likings(" + SCRATCH + ", " + sorts[sheet] + ", 0, 1)");
        take("told(0, 0, 0)");
      }
    }

    /** Ends the text that is begun in a rich scene, and others in one way or another. */
    private void tape() {
      for (char c : "2;wants 1;".toCharArray()) {
        take("feed(" + (int) c + ")");
      }
      take("text()");
    }

    private void texts() {
      for (int text = 0; text < 6; text++) {
        take("force(" + text + ")");
        for (int what = 3; what < 6; what++) {
          take("told(0, 0, " + what + ")");
        }
      }
    }
  }
}
