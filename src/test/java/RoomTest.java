import com.sun.management.ThreadMXBean;
import java.lang.management.ManagementFactory;

/** All calls of a run live in one room: an object makes its rows once, and no call makes another one. */
public final class RoomTest {
  private static final ThreadMXBean BEAN = (ThreadMXBean) ManagementFactory.getThreadMXBean();
  private static int wrong = 0;
  /** Takes the answers, so that no call is left out. */
  private static long sum = 0;

  private static long made() { return BEAN.getThreadAllocatedBytes(Thread.currentThread().getId()); }

  private static void atMost(String what, long got, long most) {
    if (got > most) { wrong++; System.out.println(what + " took " + got + " bytes, due are " + most + " at most"); }
  }

  public static void main(String[] args) {
    String text = full();
    GhostPike warm = Texts.read(text);
    for (int i = 0; i < 3; i++) calls(warm);
    // Some 12,000 fields and elements: by 600 objects of 512 calls the room is not yet full.
    long before = made();
    GhostPike x = new GhostPike();
    atMost("an object", made() - before, 48000);
    Texts.put(x, text);
    before = made();
    sum += x.read();
    atMost("read()", made() - before, 1000);
    before = made();
    sum += x.who(0, -1);
    atMost("the first who()", made() - before, 25000);
    before = made();
    for (int i = 0; i < 6; i++) calls(x);
    atMost("480 calls", made() - before, 1000);
    System.out.println(wrong == 0 ? "the room is large enough" : wrong + " take too much");
    if (wrong != 0) System.exit(1);
  }

  private static String full() {
    StringBuilder s = new StringBuilder();
    for (char c = 'a'; c <= 'h'; c++) s.append("place ").append(c).append(';');
    for (int i = 0; i < 12; i++) {
      char a = (char) ('a' + i % 8), b = (char) ('a' + (i < 8 ? i + 1 : i + 3) % 8);
      s.append("road ").append(a).append(' ').append(b).append(' ').append(1 + i % 4).append(i % 2 == 0 ? " field" : "").append(i % 3 == 0 ? " gate;" : ";");
    }
    for (int i = 0; i < 7; i++)
      s.append("ghost g").append((char) ('a' + i)).append(' ').append((char) ('a' + i)).append(' ').append((char) ('a' + (i + 3) % 8)).append(" 3 50 ").append(1 + i % 3).append(';');
    return s + "owes = rate * kind + wear / 3;fears = foggy * 5 + which;bears = 60 + hours - night / 9;fog 40;";
  }

  private static void calls(GhostPike x) {
    for (int i = 0; i < 13; i++) sum += x.count(i);
    for (int i = 0; i < 9; i++) sum += x.road(i, i) + x.ghost(i % 7, i) + x.cost(i % 7, i) + x.way(i % 7, i % 4) + x.wayAt(i % 7, i % 3);
    sum += (x.gate(1, true) ? 1 : 0) + (x.rate(3) ? 1 : 0) + x.mend(0) + x.nights(30) + (x.undo() ? 1 : 0);
    sum += x.tonight(0) + x.put(3, 9, 0) + x.put(2, 4, 1) + x.free() + x.stop(0) + x.saves(0) + x.pays(1, 60) + x.seen(0, 60);
    sum += x.busiest(60, 0) + x.best(30, 1) + x.keepers(9, -1) + x.breaks(2) + x.first(0) + x.meets(0, 1) + x.cutOff(3);
    sum += x.year(60, 20) + x.sheet(true, false) + x.tell(0, 30, true) + x.who(1, 0) + x.watch(1, 30) + x.forget();
    sum += (x.hold(0) ? 1 : 0) + (x.restore(0) ? 1 : 0) + x.back(0) + x.place();
  }
}
