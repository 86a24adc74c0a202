import java.util.Arrays;

/**
 * What holds without a model of the document: no call throws, whatever it is given; questions change nothing; the same
 * calls give the same answers. One object gets the changes alone, two others get all questions between them as well:
 * in the end all three answer alike.
 */
public final class QuietTest {
  private static final int[] FAR = {Integer.MIN_VALUE, -65536, -2, 31, 61, 201, 1 << 16, Integer.MAX_VALUE};
  private static final int CALLS = 512;
  private static int wrong = 0;

  public static void main(String[] args) {
    int runs = args.length > 0 ? Integer.parseInt(args[0]) : 300;
    for (int run = 1; run <= runs; run++) run(run, CALLS);
    // Answers behind the 512th call are free, but there are some.
    for (int run = 1; run <= 3; run++) run(1000 + run, 8 * CALLS);
    System.out.println(wrong == 0 ? "questions are quiet" : wrong + " runs are not as due");
    if (wrong != 0) System.exit(1);
  }

  private static void run(int run, int calls) {
    Random73 r = new Random73(7300 + run);
    GhostPike still = new GhostPike(), asked = new GhostPike(), again = new GhostPike();
    for (int i = 0; i < calls; i++) {
      if (i == 0 || r.once(150)) {
        String text = r.once(4) ? Texts.spoilt(r) : Texts.good(r);
        for (GhostPike x : new GhostPike[] {still, asked, again}) { x.back(x.count(8)); Texts.put(x, text); x.read(); }
      }
      int call = r.below(12), a = number(r), b = number(r);
      boolean yes = r.once(2);
      if (r.once(4)) {
        int due = change(still, call, a, b, yes);
        say(change(asked, call, a, b, yes) == due && change(again, call, a, b, yes) == due, run, "change " + call + " of " + a + ", " + b);
      } else {
        int question = r.below(27), c = number(r);
        int due = ask(asked, question, a, b, c, yes);
        say(ask(again, question, a, b, c, yes) == due, run, "question " + question + " of " + a + ", " + b + ", " + c);
      }
    }
    int[] due = whole(still);
    say(Arrays.equals(whole(asked), due) && Arrays.equals(whole(again), due), run, "all in the end");
  }

  private static void say(boolean good, int run, String what) {
    if (!good && wrong++ < 5) System.out.println("run " + run + ": " + what);
  }

  private static int number(Random73 r) {
    return r.once(12) ? FAR[r.below(FAR.length)] : r.once(8) ? r.from(-3, 62) : r.from(-1, 9);
  }

  private static int of(boolean b) { return b ? 1 : 0; }

  private static int change(GhostPike x, int call, int a, int b, boolean yes) {
    switch (call) {
      case 0: case 1: return x.nights(a);
      case 2: case 3: return of(x.gate(a, yes));
      case 4: return of(x.rate(a));
      case 5: return x.mend(a);
      case 6: return of(x.undo());
      case 7: case 8: return x.tell(a, b, yes);
      case 9: return of(x.hold(a));
      case 10: return of(x.restore(a));
      default: return a == 9 ? x.forget() : a == 8 ? x.read() : yes ? x.feed(a, b, a, b, a) : x.back(a);
    }
  }

  private static int ask(GhostPike x, int question, int a, int b, int c, boolean yes) {
    switch (question) {
      case 0: return x.place();
      case 1: return x.road(a, b);
      case 2: return x.ghost(a, b);
      case 3: return x.cost(a, b);
      case 4: return x.way(a, b);
      case 5: return x.wayAt(a, b);
      case 6: return x.tonight(a);
      case 7: return x.put(a, b, c);
      case 8: return x.free();
      case 9: return x.stop(a);
      case 10: return x.saves(a);
      case 11: return x.pays(a, b);
      case 12: return x.seen(a, b);
      case 13: return x.busiest(a, b);
      case 14: return x.best(a, b);
      case 15: return x.keepers(a, b);
      case 16: return x.breaks(a);
      case 17: return x.first(a);
      case 18: return x.meets(a, b);
      case 19: return x.cutOff(a);
      case 20: return x.year(a, b);
      case 21: return x.sheet(yes, a < b);
      case 22: return x.who(a, b);
      case 23: return x.watch(a, b);
      default: return x.count(a);
    }
  }

  /** Every sort of question once or more. */
  private static int[] whole(GhostPike x) {
    int[] row = new int[900];
    int n = 0;
    int[] sight = Edges.sight(x);
    for (int cell : sight) row[n++] = cell;
    row[n++] = x.place();
    row[n++] = x.count(8);
    for (int r = 0; r < 12; r++) { row[n++] = x.breaks(r); row[n++] = x.seen(r, 60); }
    for (int g = 0; g < 7; g++) {
      row[n++] = x.saves(g); row[n++] = x.cutOff(g); row[n++] = x.pays(g, 60); row[n++] = x.meets(g, (g + 1) % 7);
      for (int i = 0; i < 8; i++) row[n++] = x.wayAt(g, i);
      for (int r = 0; r < 12; r++) row[n++] = x.cost(g, r);
    }
    for (int i = 0; i < 3; i++) row[n++] = x.tonight(i);
    for (int i = 0; i < 2; i++) {
      row[n++] = x.put(2, 4, i); row[n++] = x.stop(i); row[n++] = x.busiest(30, i); row[n++] = x.best(9, i); row[n++] = x.first(i);
    }
    for (int i = -1; i < 4; i++) row[n++] = x.keepers(3, i);
    row[n++] = x.year(20, 3);
    for (int k = 0; k <= x.count(10); k++) {
      row[n++] = x.who(k, -1); row[n++] = x.who(k, 0); row[n++] = x.watch(k, 0); row[n++] = x.watch(k, 30);
    }
    return Arrays.copyOf(row, n);
  }
}
