import java.lang.management.ManagementFactory;

/** What a run makes: an object takes little room, and its calls take none. */
public final class RoomTest {
  private static final int CALLS = 512;
  private static final Due DUE = new Due();

  public static void main(String[] args) {
    com.sun.management.ThreadMXBean threads =
        (com.sun.management.ThreadMXBean) ManagementFactory.getThreadMXBean();
    for (int time = 0; time < 3; time++) {
      use(new RefusedMayAsk());
    }
    long before = threads.getCurrentThreadAllocatedBytes();
    RefusedMayAsk x = new RefusedMayAsk();
    long made = threads.getCurrentThreadAllocatedBytes();
    use(x);
    long used = threads.getCurrentThreadAllocatedBytes();
    System.out.println("an object: " + (made - before) + " bytes, its calls: " + (used - made));
    DUE.holds("an object takes less than 32 KiB", made - before < 32768);
    DUE.holds("calls take next to nothing", used - made < 4096);
    DUE.end();
  }

  /** All the dear calls, with as many people as there can be. */
  private static void use(RefusedMayAsk x) {
    String text = "takes 1;worth like-hers;wants not 0;";
    for (int i = 0; i < 4; i++) {
      x.man(i);
      x.maid(1, i);
      x.sheet(i, i % 3, 36);
    }
    for (int i = 0; i < CALLS; i++) {
      switch (i % 16) {
        case 0 -> x.chance(i, 20, 0);
        case 1 -> x.drawn(i);
        case 2 -> x.best(1, -1);
        case 3 -> x.pairings(0);
        case 4 -> x.year(12, 1);
        case 5 -> x.way(0, 3, 1, 1);
        case 6 -> x.judge(0, 1);
        case 7 -> x.likings(1, 1, 0, 9);
        case 8 -> x.copy(0, 0, 3, 0, 30);
        case 9 -> x.image();
        case 10 -> x.back();
        case 11 -> x.sheet(2, 2, 40);
        case 12 -> x.text();
        case 13 -> x.sure(0);
        default -> x.feed(text.charAt(i % text.length()));
      }
    }
  }
}
