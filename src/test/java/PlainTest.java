/** Runs of calls by chance, on the program and on the plain model of the document: every answer is to be the same. */
public final class PlainTest {
  private static int wrong = 0;
  private static final StringBuilder done = new StringBuilder();

  private static void same(String call, long got, long due) {
    done.append(call).append(" = ").append(due).append('\n');
    if (got != due && wrong++ < 5) {
      System.out.println(done + "  but the program answered " + got);
    }
  }

  public static void main(String[] args) {
    int runs = args.length > 0 ? Integer.parseInt(args[0]) : 400;
    int from = args.length > 1 ? Integer.parseInt(args[1]) : 1;
    for (int run = from; run < from + runs; run++) goodRun(new Random73(run), run);
    for (int run = 1; run <= runs * 20; run++) faultRun(new Random73(100000 + from + run), run);
    System.out.println(wrong == 0 ? "all answers are the plain model's" : wrong + " answers are not the plain model's");
    if (wrong != 0) System.exit(1);
  }

  private static void load(GhostPike x, PlainPike y, String text) {
    done.append("text ").append(text).append('\n');
    for (int[] w : Texts.words(text)) same("feed", x.feed(w[0], w[1], w[2], w[3], w[4]), y.feed(w));
    int more = (20 - text.length() % 20) % 20;
    same("back(" + more + ")", x.back(more), y.back(more));
    same("read()", x.read(), y.read());
    same("place()", x.place(), y.place());
  }

  private static void faultRun(Random73 r, int run) {
    done.setLength(0);
    done.append("fault run ").append(run).append('\n');
    GhostPike x = new GhostPike();
    PlainPike y = new PlainPike();
    for (int i = 0; i < 3; i++) {
      load(x, y, r.once(5) ? Texts.good(r) : Texts.spoilt(r));
      for (int what = -1; what <= 13; what++) same("count(" + what + ")", x.count(what), y.count(what));
    }
  }

  private static void goodRun(Random73 r, int run) {
    done.setLength(0);
    done.append("good run ").append(run).append('\n');
    GhostPike x = new GhostPike();
    PlainPike y = new PlainPike();
    if (!r.once(20)) load(x, y, Texts.good(r));
    boolean busy = r.once(2);
    for (int i = 0; i < 120; i++) {
      if (r.once(90)) load(x, y, r.once(3) ? Texts.spoilt(r) : Texts.good(r));
      if (busy && r.once(2)) change(r, x, y); else if (r.once(5)) change(r, x, y); else ask(r, x, y);
      if (r.once(8)) askAgain(r, x, y);
    }
  }

  private static void change(Random73 r, GhostPike x, PlainPike y) {
    int a = r.from(-1, 12), n = r.once(8) ? r.from(-1, 31) : r.below(4);
    boolean up = r.once(2);
    switch (r.below(12)) {
      case 0: case 1: case 2: same("nights(" + n + ")", x.nights(n), y.nights(n)); break;
      case 3: case 4: same("gate(" + a + ", " + up + ")", x.gate(a, up) ? 1 : 0, y.gate(a, up) ? 1 : 0); break;
      case 5: same("rate(" + (a - 1) + ")", x.rate(a - 1) ? 1 : 0, y.rate(a - 1) ? 1 : 0); break;
      case 6: same("mend(" + a + ")", x.mend(a), y.mend(a)); break;
      case 7: same("undo()", x.undo() ? 1 : 0, y.undo() ? 1 : 0); break;
      case 8: case 9: { int night = r.from(-1, 31); same("tell(" + a + ", " + night + ", " + up + ")", x.tell(a, night, up), y.tell(a, night, up)); break; }
      case 10: { int s = r.from(-1, 3); same("hold(" + s + ")", x.hold(s) ? 1 : 0, y.hold(s) ? 1 : 0); break; }
      default:
        if (r.once(6)) same("forget()", x.forget(), y.forget());
        else { int s = r.from(-1, 3); same("restore(" + s + ")", x.restore(s) ? 1 : 0, y.restore(s) ? 1 : 0); }
    }
    for (int what = 3; what <= 12; what++) same("count(" + what + ")", x.count(what), y.count(what));
  }

  /** Both halves of an answer, and now and then something done between them. */
  private static void askAgain(Random73 r, GhostPike x, PlainPike y) {
    int n = r.from(1, 3), kind = r.below(6);
    for (int i = 0; i < 4; i++) {
      int what = r.below(2);
      switch (kind) {
        case 0: same("put(1, " + n + ", " + what + ")", x.put(1, n, what), y.put(1, n, what)); break;
        case 1: same("stop(" + what + ")", x.stop(what), y.stop(what)); break;
        case 2: same("best(" + n + ", " + what + ")", x.best(n, what), y.best(n, what)); break;
        case 3: same("busiest(" + n + ", " + what + ")", x.busiest(n, what), y.busiest(n, what)); break;
        case 4: same("keepers(" + n + ", " + (what - 1) + ")", x.keepers(n, what - 1), y.keepers(n, what - 1)); break;
        default: same("first(" + what + ")", x.first(what), y.first(what));
      }
      if (r.once(3)) change(r, x, y);
      if (r.once(5)) kind = r.below(6);
    }
  }

  private static void ask(Random73 r, GhostPike x, PlainPike y) {
    int road = r.from(-1, 12), ghost = r.from(-1, 7), what = r.from(-1, 4), n = r.once(6) ? r.from(-2, 62) : r.below(12);
    int few = r.from(0, 10), bit = r.from(-1, 2);
    switch (r.below(36)) {
      case 0: case 1: { int w = r.from(-1, 9); same("road(" + road + ", " + w + ")", x.road(road, w), y.road(road, w)); break; }
      case 2: case 3: { int w = r.from(-1, 8); same("ghost(" + ghost + ", " + w + ")", x.ghost(ghost, w), y.ghost(ghost, w)); break; }
      case 4: case 5: same("cost(" + ghost + ", " + road + ")", x.cost(ghost, road), y.cost(ghost, road)); break;
      case 6: case 7: case 8: same("way(" + ghost + ", " + what + ")", x.way(ghost, what), y.way(ghost, what)); break;
      case 9: case 10: case 11: same("wayAt(" + ghost + ", " + what + ")", x.wayAt(ghost, what), y.wayAt(ghost, what)); break;
      case 12: same("tonight(" + what + ")", x.tonight(what), y.tonight(what)); break;
      case 13: { int g = r.once(4) ? r.from(0, 4) : r.from(1, 2); same("put(" + g + ", " + few + ", " + bit + ")", x.put(g, few, bit), y.put(g, few, bit)); break; }
      case 14: same("free()", x.free(), y.free()); break;
      case 15: same("stop(" + bit + ")", x.stop(bit), y.stop(bit)); break;
      case 16: case 17: same("saves(" + ghost + ")", x.saves(ghost), y.saves(ghost)); break;
      case 18: same("pays(" + ghost + ", " + n + ")", x.pays(ghost, n), y.pays(ghost, n)); break;
      case 19: same("seen(" + road + ", " + n + ")", x.seen(road, n), y.seen(road, n)); break;
      case 20: same("busiest(" + n + ", " + bit + ")", x.busiest(n, bit), y.busiest(n, bit)); break;
      case 21: { int m = r.from(0, 31); same("best(" + m + ", " + bit + ")", x.best(m, bit), y.best(m, bit)); break; }
      case 22: { int i = r.from(-2, 6); same("keepers(" + few + ", " + i + ")", x.keepers(few, i), y.keepers(few, i)); break; }
      case 23: case 24: same("breaks(" + road + ")", x.breaks(road), y.breaks(road)); break;
      case 25: same("first(" + bit + ")", x.first(bit), y.first(bit)); break;
      case 26: { int o = r.from(-1, 7); same("meets(" + ghost + ", " + o + ")", x.meets(ghost, o), y.meets(ghost, o)); break; }
      case 27: case 28: same("cutOff(" + ghost + ")", x.cutOff(ghost), y.cutOff(ghost)); break;
      case 29: { int s = r.once(6) ? r.from(-1, 21) : r.from(1, 4); same("year(" + n + ", " + s + ")", x.year(n, s), y.year(n, s)); break; }
      case 30: { boolean d = r.once(2), b = r.once(2); same("sheet(" + d + ", " + b + ")", x.sheet(d, b), y.sheet(d, b)); break; }
      case 31: case 32: { int k = r.from(-1, 6), i = r.from(-2, 9); same("who(" + k + ", " + i + ")", x.who(k, i), y.who(k, i)); break; }
      case 33: { int k = r.from(-1, 4), night = r.from(-1, 31); same("watch(" + k + ", " + night + ")", x.watch(k, night), y.watch(k, night)); break; }
      default: { int w = r.from(-1, 13); same("count(" + w + ")", x.count(w), y.count(w)); }
    }
  }
}
