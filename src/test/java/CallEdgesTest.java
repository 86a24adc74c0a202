/** Promises 11 to 38: edges of what is done, of what would be, of what was TOLD, of SLOTS and counts. */
public final class CallEdgesTest {
  private static final int NONE = -1;
  private static final Edges t = new Edges();
  private static final String PAIR = Edges.PAIR;
  private static final String ONE = PAIR + "road a b 1;ghost g a b 0 0 1;";
  /** One GHOST who pays the RATE at one GATE, each night. */
  private static final String TOLL = PAIR + "road a b 1 gate;ghost g a b 0 99 1;";
  /** One GHOST who is SEEN each night. */
  private static final String FIELD = PAIR + "road a b 1 field;ghost g a b 0 0 1;";
  /** Twelve ROADS side by side, seven GHOSTS. */
  private static final String FULL = PAIR + Edges.often("road a b 1;", 12) + Edges.letters("ghost g# a b 0 9 1;", 7);

  public static void main(String[] args) {
    gate();
    rate();
    mend();
    nights();
    undo();
    undoOf40();
    tonight();
    put();
    putBits();
    free();
    stop();
    saves();
    pays();
    seen();
    busiest();
    best();
    keepers();
    breaks();
    first();
    meets();
    cutOff();
    year();
    sheet();
    nothingHappens();
    tell();
    forget();
    who();
    watch();
    hold();
    restore();
    askedAnew();
    count();
    longRun();
    t.end(11, 38);
  }

  /** A text with things done, a SLOT held and something TOLD, so that whatever happens can be seen. */
  private static GhostPike busy() {
    GhostPike x = Texts.read(PAIR + "road a b 1 field gate;road a b 7;ghost g a b 1 9 1;ghost h b a 2 9 2;owes = rate + kind;fears = 1;bears = 20;fog 50;");
    x.nights(3);
    x.rate(2);
    x.hold(1);
    x.tell(0, 0, true);
    return x;
  }

  private static void gate() {
    t.edge(11, "A GATE is put up: true; false, and nothing happens: it is so");
    GhostPike x = Texts.read(PAIR + "road a b 1;road a b 1 gate;");
    t.due("gate(0, true)", x.gate(0, true), true);
    t.due("count(6)", x.count(6), 3);
    t.due("gate(0, true) again", x.gate(0, true), false);
    t.due("gate(1, true), as told", x.gate(1, true), false);
    t.due("count(6)", x.count(6), 3);
    t.due("count(9)", x.count(9), 1);
    t.edge(11, "A GATE is taken down: true; false, and nothing happens: it is so");
    x = Texts.read(PAIR + "road a b 1;road a b 1 gate;");
    t.due("gate(1, false)", x.gate(1, false), true);
    t.due("count(6)", x.count(6), 0);
    t.due("gate(1, false) again", x.gate(1, false), false);
    t.due("gate(0, false), as told", x.gate(0, false), false);
    t.due("count(9)", x.count(9), 1);
    t.edge(11, "false, and nothing happens: no such ROAD");
    x = busy();
    int[] before = Edges.sight(x);
    for (boolean up : new boolean[] {true, false}) {
      t.due("gate(2, " + up + ")", x.gate(2, up), false);
      t.due("gate(12, " + up + ")", x.gate(12, up), false);
      t.due("gate(32, " + up + ")", x.gate(32, up), false);
      t.due("gate(-1, " + up + ")", x.gate(-1, up), false);
      for (int far : Edges.FAR) t.due("gate(" + far + ", " + up + ")", x.gate(far, up), false);
    }
    t.same("gate of no ROAD", before, x);
    t.edge(11, "the first and the twelfth ROAD, all at once");
    x = Texts.read(FULL);
    for (int r = 0; r < 12; r++) t.due("gate(" + r + ", true)", x.gate(r, true), true);
    t.due("count(6)", x.count(6), 4095);
    t.due("gate(11, false)", x.gate(11, false), true);
    t.due("count(6)", x.count(6), 2047);
    t.due("gate(0, false)", x.gate(0, false), true);
    t.due("count(6)", x.count(6), 2046);
    t.edge(11, "on a BROKEN ROAD, too");
    x = Texts.read(PAIR + "road a b 1;bears = 0;");
    t.due("gate(0, true)", x.gate(0, true), true);
    t.due("road(0, 4)", x.road(0, 4), 1);
  }

  private static void rate() {
    t.edge(12, "The RATE is set (0 .. 9)");
    GhostPike x = Texts.read(TOLL);
    for (int rate : new int[] {0, 9, 8, 1, 0}) {
      t.due("rate(" + rate + ")", x.rate(rate), true);
      t.due("count(4)", x.count(4), rate);
      t.due("cost(0, 0)", x.cost(0, 0), 1 + rate);
    }
    t.edge(12, "false, and nothing happens: it is so");
    t.due("rate(0)", x.rate(0), false);
    t.due("count(9)", x.count(9), 5);
    x = Texts.read(TOLL);
    t.due("rate(1) at first", x.rate(1), false);
    t.due("count(9)", x.count(9), 0);
    t.edge(12, "false, and nothing happens: no such one");
    x = busy();
    int[] before = Edges.sight(x);
    t.due("rate(-1)", x.rate(-1), false);
    t.due("rate(10)", x.rate(10), false);
    for (int far : Edges.FAR) t.due("rate(" + far + ")", x.rate(far), false);
    t.same("rate of no such one", before, x);
  }

  private static void mend() {
    t.edge(13, "-2, and nothing happens: no WEAR");
    GhostPike x = busy();
    int[] before = Edges.sight(x);
    t.due("mend(1)", x.mend(1), -2);
    t.same("mend without WEAR", before, x);
    t.due("mend(0) of a new text", Texts.read(ONE).mend(0), -2);
    t.edge(13, "-2, and nothing happens: not so much in it");
    x = Texts.read(ONE);
    x.nights(1);
    before = Edges.sight(x);
    t.due("mend(0) with nothing in it", x.mend(0), -2);
    t.same("mend with nothing in it", before, x);
    x = Texts.read(TOLL + "ghost h a b 0 0 9;");
    x.nights(3);
    t.due("count(5)", x.count(5), 3);
    t.due("road(0, 5)", x.road(0, 5), 4);
    before = Edges.sight(x);
    t.due("mend(0) with 1 less in it", x.mend(0), -2);
    t.same("mend with 1 less in it", before, x);
    t.edge(13, "if that is in it: just as much, more");
    x = Texts.read(TOLL);
    x.nights(4);
    t.due("mend(0) with just as much", x.mend(0), 0);
    t.due("road(0, 5)", x.road(0, 5), 0);
    t.due("count(5)", x.count(5), 0);
    x.rate(2);
    x.nights(3);
    t.due("mend(0) with more", x.mend(0), 3);
    t.due("count(5)", x.count(5), 3);
    t.due("what was paid on it stays", x.road(0, 8), 10);
    t.edge(13, "MENDED already: no WEAR");
    t.due("mend(0) again", x.mend(0), -2);
    t.due("count(5)", x.count(5), 3);
    t.due("count(9)", x.count(9), 5);
    t.edge(13, "NONE: no such ROAD");
    x = busy();
    before = Edges.sight(x);
    t.due("mend(2)", x.mend(2), NONE);
    t.due("mend(-1)", x.mend(-1), NONE);
    for (int far : Edges.FAR) t.due("mend(" + far + ")", x.mend(far), NONE);
    t.same("mend of no ROAD", before, x);
    t.edge(13, "the twelfth ROAD");
    x = Texts.read(PAIR + Edges.often("road a b 9;", 11) + "road a b 1 gate;ghost g a b 0 9 1;");
    x.nights(1);
    t.due("mend(11)", x.mend(11), 0);
    t.due("mend(12)", x.mend(12), NONE);
  }

  private static void nights() {
    t.edge(14, "n NIGHTS: 0 is no thing done");
    GhostPike x = busy();
    int[] before = Edges.sight(x);
    t.due("nights(0)", x.nights(0), 3);
    t.same("nights(0)", before, x);
    t.edge(14, "n NIGHTS (0 .. 30): 1, 30");
    x = Texts.read(ONE);
    t.due("nights(1)", x.nights(1), 1);
    t.due("nights(30)", x.nights(30), 31);
    t.due("ghost(0, 5)", x.ghost(0, 5), 31);
    t.due("count(9)", x.count(9), 2);
    t.edge(14, "NONE, and nothing happens: no such n");
    x = busy();
    before = Edges.sight(x);
    t.due("nights(31)", x.nights(31), NONE);
    t.due("nights(-1)", x.nights(-1), NONE);
    for (int far : Edges.FAR) t.due("nights(" + far + ")", x.nights(far), NONE);
    t.same("nights of no such n", before, x);
    t.edge(14, "thirty by one are as one by thirty");
    GhostPike y = busy();
    x.nights(30);
    for (int i = 0; i < 30; i++) y.nights(1);
    for (int i = 3; i <= 7; i++) t.due("count(" + i + ")", y.count(i), x.count(i));
    for (int r = 0; r < 2; r++) for (int i = 0; i < 9; i++) t.due("road(" + r + ", " + i + ")", y.road(r, i), x.road(r, i));
    for (int g = 0; g < 2; g++) for (int i = 0; i < 8; i++) t.due("ghost(" + g + ", " + i + ")", y.ghost(g, i), x.ghost(g, i));
    t.edge(14, "empty: without a GHOST nights go by, too");
    x = new GhostPike();
    t.due("nights(30)", x.nights(30), 30);
    t.due("count(3)", x.count(3), 30);
    t.due("undo()", x.undo(), true);
    t.due("count(3)", x.count(3), 0);
  }

  private static void undo() {
    t.edge(15, "false: there is none: nothing was done, or what was refused");
    GhostPike x = Texts.read(TOLL);
    t.due("undo()", x.undo(), false);
    x.gate(0, true);
    x.gate(1, true);
    x.rate(1);
    x.rate(10);
    x.mend(0);
    x.mend(1);
    x.nights(0);
    x.nights(31);
    x.hold(0);
    x.tell(0, 0, true);
    x.forget();
    t.due("undo() of what was refused", x.undo(), false);
    t.edge(15, "The last thing done (gate, rate, mend, nights) is undone");
    int[] start = Edges.sight(x);
    x.nights(2);
    int[] one = Edges.sight(x);
    x.mend(0);
    int[] two = Edges.sight(x);
    x.rate(7);
    int[] three = Edges.sight(x);
    x.gate(0, false);
    t.due("count(9)", x.count(9), 4);
    t.due("undo() of gate", x.undo(), true);
    t.same("undo() of gate", three, x);
    t.due("undo() of rate", x.undo(), true);
    t.same("undo() of rate", two, x);
    t.due("undo() of mend", x.undo(), true);
    t.same("undo() of mend", one, x);
    t.due("undo() of nights", x.undo(), true);
    t.same("undo() of nights", start, x);
    t.due("undo() of none", x.undo(), false);
    t.same("undo() of none", start, x);
    t.edge(15, "undo is no thing done: it is not undone itself");
    x = Texts.read(TOLL);
    x.rate(2);
    x.rate(3);
    x.undo();
    t.due("undo()", x.undo(), true);
    t.due("count(4)", x.count(4), 1);
    t.due("undo()", x.undo(), false);
    t.edge(15, "TOLD ones, the tape, SLOTS are not undone");
    x = Texts.read(FIELD);
    x.rate(4);
    x.tell(0, 0, true);
    x.feed(0, 0, 0, 0, 0);
    x.hold(2);
    x.undo();
    t.due("count(8)", x.count(8), 20);
    t.due("count(10)", x.count(10), 1);
    t.due("count(11)", x.count(11), 1);
    t.due("restore(2)", x.restore(2), true);
    t.due("count(4)", x.count(4), 4);
  }

  private static void undoOf40() {
    for (int done : new int[] {39, 40, 41, 79, 80, 81, 120}) {
      t.edge(15, "the last 40 can be: of " + done + " things done");
      GhostPike x = Texts.read(TOLL);
      for (int i = 1; i <= done; i++) x.rate(i % 10 == 1 ? 0 : i % 10 == 0 ? 1 : i % 10);
      int can = Math.min(done, 40);
      t.due("count(9)", x.count(9), can);
      for (int i = done; i > done - can; i--) {
        t.due("undo() of thing " + i, x.undo(), true);
        int last = (i - 1) % 10;
        t.due("count(4) behind thing " + (i - 1), x.count(4), i == 1 ? 1 : last == 1 ? 0 : last == 0 ? 1 : last);
      }
      t.due("undo() once more", x.undo(), false);
      t.due("count(9)", x.count(9), 0);
    }
    t.edge(15, "the last 40 can be: undone and done anew, over and over");
    GhostPike x = Texts.read(ONE);
    for (int i = 0; i < 30; i++) x.nights(1);
    for (int i = 0; i < 20; i++) x.undo();
    for (int i = 0; i < 35; i++) x.nights(2);
    t.due("count(9)", x.count(9), 40);
    t.due("count(3)", x.count(3), 80);
    for (int i = 0; i < 35; i++) x.undo();
    t.due("count(3) behind 35", x.count(3), 10);
    for (int i = 0; i < 5; i++) t.due("undo()", x.undo(), true);
    t.due("count(3) behind 40", x.count(3), 5);
    t.due("undo() once more", x.undo(), false);
    t.due("count(3)", x.count(3), 5);
  }

  private static void tonight() {
    t.edge(16, "what 0, 1, 2; NONE for others");
    GhostPike x = Texts.read(PAIR + "road a b 1 field gate;ghost g a b 0 2 1;ghost h b a 0 9 1;owes = 3;");
    t.due("tonight(0)", x.tonight(0), 5);
    t.due("tonight(1)", x.tonight(1), 2);
    t.due("tonight(2)", x.tonight(2), 2);
    t.due("tonight(3)", x.tonight(3), NONE);
    t.due("tonight(-1)", x.tonight(-1), NONE);
    for (int far : Edges.FAR) t.due("tonight(" + far + ")", x.tonight(far), NONE);
    t.edge(16, "empty: it is nobody's night");
    x = Texts.read(PAIR + "road a b 1 field gate;ghost g a b 0 2 2;ghost h b a 0 9 3;");
    x.nights(1);
    for (int what = 0; what < 3; what++) t.due("tonight(" + what + ")", x.tonight(what), 0);
    t.edge(16, "all whose night it is STAY");
    x = Texts.read(PAIR + "road a b 1 field gate;ghost g a b 0 2 1;bears = 0;");
    for (int what = 0; what < 3; what++) t.due("tonight(" + what + ")", x.tonight(what), 0);
    t.edge(16, "one after the other: the ROAD breaks while they go");
    x = Texts.read(PAIR + "road a b 1 field gate;" + Edges.letters("ghost g# a b 0 9 1;", 7) + "owes = 1 + wear;bears = 3;");
    t.due("tonight(0)", x.tonight(0), 6);
    t.due("tonight(1)", x.tonight(1), 3);
    t.due("tonight(2)", x.tonight(2), 3);
    t.edge(16, "full: seven go seven FIELDS and pay all they CARRY");
    StringBuilder s = new StringBuilder(Edges.letters("place #;", 8));
    for (int i = 0; i < 7; i++) s.append("road ").append((char) ('a' + i)).append(' ').append((char) ('b' + i)).append(" 1 field gate;");
    x = Texts.read(s + Edges.letters("ghost g# a h 0 99 1;", 7) + "owes = 99;");
    t.due("tonight(0)", x.tonight(0), 693);
    t.due("tonight(1)", x.tonight(1), 7);
    t.due("tonight(2)", x.tonight(2), 49);
  }

  private static void put() {
    GhostPike x = Texts.read(PAIR + "road a b 1;road a b 3;road a b 9;ghost g a b 0 99 1;owes = 4;");
    t.edge(17, "gates 1 .. 3, nights 1 .. 9, what 0, 1: the least and the most");
    t.due("put(1, 1, 0)", x.put(1, 1, 0), 0);
    t.due("put(1, 9, 0)", x.put(1, 9, 0), 0);
    t.due("put(3, 1, 0)", x.put(3, 1, 0), 4);
    t.due("put(3, 9, 0)", x.put(3, 9, 0), 36);
    t.due("put(3, 9, 1)", x.put(3, 9, 1), 7);
    t.edge(17, "NONE: no such ones");
    for (int[] bad : new int[][] {{0, 1, 0}, {4, 1, 0}, {-1, 1, 0}, {1, 0, 0}, {1, 10, 0}, {1, -1, 0}, {1, 1, -1}, {1, 1, 2}, {4, 10, 2}})
      t.due("put(" + bad[0] + ", " + bad[1] + ", " + bad[2] + ")", x.put(bad[0], bad[1], bad[2]), NONE);
    for (int far : Edges.FAR) {
      t.due("put(" + far + ", 1, 0)", x.put(far, 1, 0), NONE);
      t.due("put(1, " + far + ", 0)", x.put(1, far, 0), NONE);
      t.due("put(1, 1, " + far + ")", x.put(1, 1, far), NONE);
    }
    t.edge(17, "-2: not so many ROADS: none, one, two");
    for (int roads = 0; roads <= 3; roads++) {
      x = Texts.read(PAIR + Edges.often("road a b 1;", roads) + "ghost g a b 0 99 1;");
      for (int gates = 1; gates <= 3; gates++)
        for (int what = 0; what < 2; what++)
          t.due("put(" + gates + ", 1, " + what + ") of " + roads + " ROADS", x.put(gates, 1, what),
              gates > roads ? -2 : what == 1 ? (1 << gates) - 1 : gates == roads ? 1 : 0);
    }
    t.edge(17, "NONE ahead of -2: what is asked wrongly of too few ROADS");
    x = new GhostPike();
    t.due("put(4, 1, 0)", x.put(4, 1, 0), NONE);
    t.due("put(1, 10, 0)", x.put(1, 10, 0), NONE);
    t.due("put(1, 1, 2)", x.put(1, 1, 2), NONE);
    t.edge(17, "a BROKEN ROAD is a ROAD");
    x = Texts.read(ONE + "bears = 0;");
    t.due("put(1, 1, 0)", x.put(1, 1, 0), 0);
    t.due("put(1, 1, 1)", x.put(1, 1, 1), 1);
    t.edge(17, "all others down: a GATE that is up does not count, and is up still");
    x = Texts.read("place a;place b;place c;place d;road a b 1 gate;road c d 1;ghost g a b 0 9 1;ghost h c d 0 9 1;owes = 1 + 4 * which;");
    t.due("put(1, 1, 0)", x.put(1, 1, 0), 5);
    t.due("put(1, 1, 1)", x.put(1, 1, 1), 2);
    t.due("put(2, 1, 0)", x.put(2, 1, 0), 6);
    t.due("count(6)", x.count(6), 1);
    t.edge(17, "the TILL's growth: what is in it already is none of it");
    x.nights(5);
    t.due("count(5)", x.count(5), 5);
    t.due("put(1, 1, 0)", x.put(1, 1, 0), 5);
  }

  private static void putBits() {
    t.edge(17, "of alike ones the least bits: nothing can be had");
    GhostPike x = Texts.read(FULL);
    for (int gates = 1; gates <= 3; gates++) {
      t.due("put(" + gates + ", 9, 0)", x.put(gates, 9, 0), 0);
      t.due("put(" + gates + ", 9, 1)", x.put(gates, 9, 1), (1 << gates) - 1);
    }
    t.edge(17, "which ROADS (bits): the twelfth");
    String far = Edges.letters("place #;", 8) + Edges.often("road a b 1;", 9) + "road c d 1;road e f 1;road g h 1;";
    x = Texts.read(far + "ghost z g h 0 9 1;owes = 5;");
    t.due("put(1, 1, 1)", x.put(1, 1, 1), 2048);
    t.due("put(1, 1, 0)", x.put(1, 1, 0), 5);
    t.due("put(2, 1, 1), of alike ones the least", x.put(2, 1, 1), 2049);
    t.due("put(3, 1, 1), of alike ones the least", x.put(3, 1, 1), 2051);
    t.edge(17, "which ROADS (bits): the last three");
    x = Texts.read(far + "ghost x c d 0 9 1;ghost y e f 0 9 1;ghost z g h 0 9 1;owes = 5;");
    t.due("put(1, 1, 1)", x.put(1, 1, 1), 512);
    t.due("put(2, 1, 1)", x.put(2, 1, 1), 1536);
    t.due("put(3, 1, 1)", x.put(3, 1, 1), 3584);
    t.due("put(3, 9, 0)", x.put(3, 9, 0), 135);
    t.edge(17, "in so many NIGHTS: another ROAD is better in the longer run");
    x = Texts.read("place a;place b;place c;place d;road a b 1;road c d 1;ghost g a b 0 9 9;ghost h c d 0 3 1;owes = 9;");
    t.due("put(1, 1, 1)", x.put(1, 1, 1), 1);
    t.due("put(1, 3, 1): alike, the least", x.put(1, 3, 1), 1);
    t.due("put(1, 4, 1)", x.put(1, 4, 1), 2);
    t.due("put(1, 9, 0)", x.put(1, 9, 0), 27);
  }

  private static void free() {
    t.edge(18, "empty: no GHOSTS");
    t.due("free()", Texts.read(PAIR + "road a b 1;").free(), 0);
    t.edge(18, "full: seven (bits)");
    GhostPike x = Texts.read(FULL);
    t.due("free()", x.free(), 127);
    for (int r = 0; r < 11; r++) x.gate(r, true);
    t.due("free() with one ROAD left", x.free(), 127);
    x.gate(11, true);
    t.due("free() with no ROAD left", x.free(), 0);
    t.edge(18, "those without a WAY are none of them");
    x = Texts.read("place a;place b;place c;road a b 1;ghost g a c 0 0 1;ghost h a b 0 0 1;");
    t.due("free()", x.free(), 2);
    x.gate(0, true);
    t.due("free() with a gate", x.free(), 0);
    t.edge(18, "if it were their night");
    x = Texts.read(PAIR + "road a b 1;ghost g a b 0 0 9;");
    x.nights(1);
    t.due("free()", x.free(), 1);
    t.edge(18, "by no GATE: one at which nothing is owed is one");
    x = Texts.read(TOLL);
    x.rate(0);
    t.due("free()", x.free(), 0);
    t.edge(18, "by no GATE: alike to the way round, but first by number");
    x = Texts.read(PAIR + "road a b 1 gate;road a b 2;ghost g a b 0 9 1;");
    t.due("free() by rate 1", x.free(), 0);
    x.rate(2);
    t.due("free() by rate 2", x.free(), 1);
  }

  private static void stop() {
    t.edge(19, "what 0, 1; NONE for others");
    GhostPike x = Texts.read(ONE);
    t.due("stop(0)", x.stop(0), 1);
    t.due("stop(1)", x.stop(1), 1);
    t.due("stop(2)", x.stop(2), NONE);
    t.due("stop(-1)", x.stop(-1), NONE);
    for (int far : Edges.FAR) t.due("stop(" + far + ")", x.stop(far), NONE);
    t.edge(19, "none: no GHOSTS, no WAY");
    for (String text : new String[] {"", PAIR + "road a b 1 gate;", PAIR + "ghost g a b 0 0 1;", ONE + "bears = 0;"}) {
      x = Texts.read(text);
      t.due("stop(0) of " + text, x.stop(0), 0);
      t.due("stop(1) of " + text, x.stop(1), 0);
    }
    t.edge(19, "all twelve ROADS");
    x = Texts.read(FULL + "owes = 99;");
    t.due("stop(0)", x.stop(0), 12);
    t.due("stop(1)", x.stop(1), 4095);
    t.edge(19, "the twelfth ROAD alone");
    x = Texts.read("place a;place b;place c;" + Edges.often("road a b 1;", 11) + "road b c 1;ghost g a c 0 9 1;ghost h c a 0 9 1;owes = 9;");
    t.due("stop(0)", x.stop(0), 1);
    t.due("stop(1)", x.stop(1), 2048);
    t.edge(19, "of alike ones the least bits");
    x = Texts.read("place a;place b;place c;place d;road a b 1;road b c 1;road c d 1;ghost g a d 0 9 1;");
    t.due("stop(1) of three", x.stop(1), 1);
    x = Texts.read("place a;place b;place c;place d;road a b 1;road b c 1;road c d 1;ghost g a c 0 9 1;ghost h b d 0 9 1;");
    t.due("stop(1) of the one between", x.stop(1), 2);
    t.due("stop(0) of the one between", x.stop(0), 1);
    x = Texts.read("place a;place b;place c;place d;road a b 1;road c d 1;road a b 9;road c d 9;ghost g a b 0 9 1;ghost h c d 0 9 1;");
    t.due("stop(1) of two", x.stop(1), 3);
    t.edge(19, "a cheap GATE further on stops him where a dear one sends him round, though the dear one is up now");
    x = Texts.read("place a;place b;place c;road a b 1 gate;road a c 5;road b c 1;ghost g a c 0 9 1;owes = if which < 1 then 99 else 1;");
    t.due("wayAt(0, 0)", x.wayAt(0, 0), 1);
    t.due("stop(0)", x.stop(0), 1);
    t.due("stop(1)", x.stop(1), 4);
    t.edge(19, "all others down: GATES that are up do not count, and are up still");
    x = Texts.read(PAIR + "road a b 1 gate;road a b 1 gate;ghost g a b 0 9 1;");
    t.due("stop(0)", x.stop(0), 2);
    t.due("count(6)", x.count(6), 3);
    x.rate(0);
    t.due("stop(0) by rate 0", x.stop(0), 1);
    t.due("stop(1) by rate 0", x.stop(1), 1);
  }

  private static void saves() {
    t.edge(20, "how much less: nothing, without a GATE or by nothing owed");
    t.due("saves(0)", Texts.read(ONE).saves(0), 0);
    t.due("saves(0) by nothing owed", Texts.read(TOLL + "owes = 0;").saves(0), 0);
    t.edge(20, "how much less: the most");
    StringBuilder s = new StringBuilder(Edges.letters("place #;", 8));
    for (int i = 0; i < 7; i++) s.append("road ").append((char) ('a' + i)).append(' ').append((char) ('b' + i)).append(" 1 gate;");
    t.due("saves(0)", Texts.read(s + "ghost z a h 0 0 1;owes = 99;").saves(0), 693);
    t.edge(20, "by another WAY, though he pays nothing on his own");
    GhostPike x = Texts.read(PAIR + "road a b 1 gate;road a b 9;ghost g a b 0 9 1;owes = 50;");
    t.due("saves(0)", x.saves(0), 8);
    t.due("way(0, 3)", x.way(0, 3), 0);
    t.edge(20, "now: a ROAD BROKEN now would not be whole without a GATE; the RATE, the night of now");
    x = Texts.read(PAIR + "road a b 1;road a b 4 gate;road a b 9 field;ghost g a b 0 9 1;owes = 2 + rate;fears = rate + night;bears = 2 + which * 90;");
    t.due("saves(0)", x.saves(0), 0);
    x.nights(2);
    t.due("road(0, 6)", x.road(0, 6), 1);
    t.due("saves(0) with the first one broken", x.saves(0), 3);
    x.rate(3);
    t.due("saves(0) by rate 3", x.saves(0), 5);
    x.undo();
    t.due("saves(0) by rate 1", x.saves(0), 3);
    t.edge(20, "-2: there is no WAY");
    t.due("saves(0)", Texts.read(PAIR + "ghost g a b 0 0 1;").saves(0), -2);
    t.due("saves(0) of a broken one", Texts.read(TOLL + "bears = 0;").saves(0), -2);
    t.edge(20, "NONE: no such GHOST");
    x = Texts.read(TOLL);
    t.due("saves(0)", x.saves(0), 1);
    t.due("saves(1)", x.saves(1), NONE);
    t.due("saves(-1)", x.saves(-1), NONE);
    for (int far : Edges.FAR) t.due("saves(" + far + ")", x.saves(far), NONE);
    x = Texts.read(FULL);
    t.due("saves(6)", x.saves(6), 0);
    t.due("saves(7)", x.saves(7), NONE);
  }

  private static void pays() {
    GhostPike x = Texts.read(TOLL + "ghost h a b 0 0 1;bears = 999;");
    t.edge(21, "IN n NIGHTS (0 .. 60)");
    t.due("pays(0, 0)", x.pays(0, 0), 0);
    t.due("pays(0, 1)", x.pays(0, 1), 1);
    t.due("pays(0, 59)", x.pays(0, 59), 59);
    t.due("pays(0, 60)", x.pays(0, 60), 60);
    t.due("pays(1, 60), who carries nothing", x.pays(1, 60), 0);
    t.edge(21, "NONE: no such ones");
    t.due("pays(0, 61)", x.pays(0, 61), NONE);
    t.due("pays(0, -1)", x.pays(0, -1), NONE);
    t.due("pays(2, 1)", x.pays(2, 1), NONE);
    t.due("pays(-1, 1)", x.pays(-1, 1), NONE);
    for (int far : Edges.FAR) {
      t.due("pays(0, " + far + ")", x.pays(0, far), NONE);
      t.due("pays(" + far + ", 1)", x.pays(far, 1), NONE);
    }
    t.edge(21, "each GHOST by himself, the seventh, too");
    GhostPike y = Texts.read(PAIR + "road a b 1 gate;ghost ga a b 1 9 1;ghost gb a b 2 9 1;ghost gc a b 3 9 1;ghost gd a b 4 9 1;ghost ge a b 5 9 1;"
        + "ghost gf a b 6 9 1;ghost gg a b 7 9 1;owes = kind;");
    for (int g = 0; g < 7; g++) t.due("pays(" + g + ", 2)", y.pays(g, 2), 2 * (g + 1));
    t.due("pays(7, 2)", y.pays(7, 2), NONE);
    t.edge(21, "only what he pays from now on");
    x.nights(10);
    t.due("pays(0, 5)", x.pays(0, 5), 5);
    t.edge(21, "till the ROAD breaks");
    x = Texts.read(TOLL + "bears = 7;");
    t.due("pays(0, 6)", x.pays(0, 6), 6);
    t.due("pays(0, 7)", x.pays(0, 7), 7);
    t.due("pays(0, 8)", x.pays(0, 8), 7);
    t.due("pays(0, 60)", x.pays(0, 60), 7);
  }

  private static void seen() {
    GhostPike x = Texts.read(FIELD + "road a b 9;");
    t.edge(22, "IN n NIGHTS (0 .. 60)");
    t.due("seen(0, 0)", x.seen(0, 0), 0);
    t.due("seen(0, 1)", x.seen(0, 1), 1);
    t.due("seen(0, 60)", x.seen(0, 60), 60);
    t.edge(22, "a ROAD that is over no FIELD: nobody");
    t.due("seen(1, 60)", x.seen(1, 60), 0);
    t.due("seen(0, 60) of a road", Texts.read(ONE).seen(0, 60), 0);
    t.edge(22, "NONE: no such ones");
    t.due("seen(0, 61)", x.seen(0, 61), NONE);
    t.due("seen(0, -1)", x.seen(0, -1), NONE);
    t.due("seen(2, 1)", x.seen(2, 1), NONE);
    t.due("seen(-1, 1)", x.seen(-1, 1), NONE);
    for (int far : Edges.FAR) {
      t.due("seen(0, " + far + ")", x.seen(0, far), NONE);
      t.due("seen(" + far + ", 1)", x.seen(far, 1), NONE);
    }
    t.edge(22, "only what is SEEN from now on");
    x.nights(10);
    t.due("seen(0, 5)", x.seen(0, 5), 5);
    t.edge(22, "each ROAD by itself");
    x = Texts.read("place a;place b;place c;place d;road a b 1 field;road b c 1 field;road c d 1 field;ghost g a d 0 0 1;ghost h b d 0 0 1;ghost i c d 0 0 1;");
    for (int r = 0; r < 3; r++) t.due("seen(" + r + ", 2)", x.seen(r, 2), 2 * (r + 1));
    t.edge(22, "how often, not by how many: two in one night are two");
    x = Texts.read(FIELD + "ghost h b a 0 0 3;");
    t.due("seen(0, 1)", x.seen(0, 1), 2);
    t.due("seen(0, 3)", x.seen(0, 3), 4);
    t.due("seen(0, 4)", x.seen(0, 4), 6);
    t.edge(22, "the twelfth ROAD");
    x = Texts.read(PAIR + Edges.often("road a b 9;", 11) + "road a b 1 field;ghost g a b 0 0 1;");
    t.due("seen(11, 2)", x.seen(11, 2), 2);
    t.due("seen(12, 2)", x.seen(12, 2), NONE);
  }

  private static void busiest() {
    GhostPike x = Texts.read("place a;place b;place c;road a c 9;road a b 1;road b c 1;ghost g a b 0 0 2;ghost h b c 0 0 1;");
    t.edge(23, "IN n NIGHTS (0 .. 60): in none the first ROAD by 0");
    t.due("busiest(0, 0)", x.busiest(0, 0), 0);
    t.due("busiest(0, 1)", x.busiest(0, 1), 0);
    t.edge(23, "of alike ones the first");
    t.due("busiest(1, 0)", x.busiest(1, 0), 1);
    t.due("busiest(1, 1)", x.busiest(1, 1), 1);
    t.due("busiest(2, 0)", x.busiest(2, 0), 2);
    t.due("busiest(2, 1)", x.busiest(2, 1), 2);
    t.due("busiest(60, 0)", x.busiest(60, 0), 2);
    t.due("busiest(60, 1)", x.busiest(60, 1), 60);
    t.edge(23, "NONE: no such ones");
    for (int[] bad : new int[][] {{61, 0}, {-1, 0}, {1, 2}, {1, -1}}) t.due("busiest(" + bad[0] + ", " + bad[1] + ")", x.busiest(bad[0], bad[1]), NONE);
    for (int far : Edges.FAR) {
      t.due("busiest(" + far + ", 0)", x.busiest(far, 0), NONE);
      t.due("busiest(1, " + far + ")", x.busiest(1, far), NONE);
    }
    t.edge(23, "-2: there are no ROADS; NONE ahead of it");
    GhostPike y = Texts.read(PAIR + "ghost g a b 0 0 1;");
    for (int n : new int[] {0, 1, 60}) for (int what = 0; what < 2; what++) t.due("busiest(" + n + ", " + what + ")", y.busiest(n, what), -2);
    t.due("busiest(61, 0)", y.busiest(61, 0), NONE);
    t.due("busiest(0, 2)", y.busiest(0, 2), NONE);
    t.edge(23, "most WEAR more, not most WEAR");
    x = Texts.read(PAIR + "road a b 1;road a b 5;ghost g a b 0 0 1;bears = 4 + which * 9;");
    x.nights(4);
    t.due("road(0, 5)", x.road(0, 5), 4);
    t.due("busiest(1, 0)", x.busiest(1, 0), 1);
    t.due("busiest(1, 1)", x.busiest(1, 1), 1);
    t.edge(23, "the twelfth ROAD");
    x = Texts.read(PAIR + Edges.often("road a b 9;", 11) + "road a b 1;ghost g a b 0 0 1;");
    t.due("busiest(3, 0)", x.busiest(3, 0), 11);
    t.edge(23, "nobody goes: the first ROAD by 0");
    x = Texts.read(PAIR + "road a b 1;road a b 1;");
    t.due("busiest(9, 0)", x.busiest(9, 0), 0);
    t.due("busiest(9, 1)", x.busiest(9, 1), 0);
  }

  private static void best() {
    GhostPike x = Texts.read(TOLL);
    t.edge(24, "n NIGHTS (1 .. 30)");
    t.due("best(1, 0)", x.best(1, 0), 9);
    t.due("best(1, 1)", x.best(1, 1), 9);
    t.due("best(30, 0)", x.best(30, 0), 9);
    t.due("best(30, 1)", x.best(30, 1), 270);
    t.edge(24, "NONE: no such ones");
    for (int[] bad : new int[][] {{0, 0}, {31, 0}, {-1, 0}, {1, 2}, {1, -1}}) t.due("best(" + bad[0] + ", " + bad[1] + ")", x.best(bad[0], bad[1]), NONE);
    for (int far : Edges.FAR) {
      t.due("best(" + far + ", 0)", x.best(far, 0), NONE);
      t.due("best(1, " + far + ")", x.best(1, far), NONE);
    }
    t.edge(24, "of alike ones the least: by what he CARRIES");
    x = Texts.read(PAIR + "road a b 1 gate;ghost g a b 0 5 1;");
    t.due("best(3, 0)", x.best(3, 0), 5);
    t.due("best(3, 1)", x.best(3, 1), 15);
    t.edge(24, "of alike ones the least: nothing can be had, RATE 0");
    x = Texts.read(ONE);
    x.rate(9);
    t.due("best(30, 0)", x.best(30, 0), 0);
    t.due("best(30, 1)", x.best(30, 1), 0);
    t.edge(24, "RATE 0 may be the best one");
    x = Texts.read(TOLL + "owes = 9 - rate;");
    t.due("best(2, 0)", x.best(2, 0), 0);
    t.due("best(2, 1)", x.best(2, 1), 18);
    t.edge(24, "as high as he still goes by the GATE");
    x = Texts.read(PAIR + "road a b 1 gate;road a b 6;ghost g a b 0 99 1;");
    t.due("best(1, 0): alike to the way round, first by number", x.best(1, 0), 5);
    x = Texts.read(PAIR + "road a b 6;road a b 1 gate;ghost g a b 0 99 1;");
    t.due("best(1, 0): the way round is first by number", x.best(1, 0), 4);
    t.edge(24, "the growth from now on");
    x.rate(4);
    x.nights(3);
    t.due("best(1, 1)", x.best(1, 1), 4);
  }

  private static void keepers() {
    GhostPike x = Texts.read("place a;place b;place c;place d;road a b 1 gate;road c d 1 gate;ghost g a b 0 99 1;ghost h c d 0 99 1;");
    t.edge(25, "RESTS for n NIGHTS (1 .. 9): how many (i NONE), else the i-th");
    for (int n : new int[] {1, 9}) {
      t.due("keepers(" + n + ", NONE)", x.keepers(n, NONE), 1);
      t.due("keepers(" + n + ", 0)", x.keepers(n, 0), 33);
    }
    t.edge(25, "NONE: no such ones, not so many");
    for (int[] bad : new int[][] {{0, -1}, {10, -1}, {-1, -1}, {0, 0}, {10, 0}, {1, -2}, {1, 1}, {1, 16}})
      t.due("keepers(" + bad[0] + ", " + bad[1] + ")", x.keepers(bad[0], bad[1]), NONE);
    for (int far : Edges.FAR) {
      t.due("keepers(" + far + ", NONE)", x.keepers(far, NONE), NONE);
      t.due("keepers(1, " + far + ")", x.keepers(1, far), NONE);
    }
    t.edge(25, "all sixteen: no GATE at all; the least first");
    x = Texts.read(ONE);
    t.due("keepers(9, NONE)", x.keepers(9, NONE), 16);
    for (int i = 0; i < 16; i++) t.due("keepers(9, " + i + ")", x.keepers(9, i), 10 * (i / 4) + i % 4);
    t.due("keepers(9, 16)", x.keepers(9, 16), NONE);
    t.edge(25, "none at all");
    x = Texts.read(PAIR + "road a b 1 gate;road a b 1 gate;ghost g a b 2 2 1;ghost h a b 2 8 1;owes = rate + wear * 2;");
    t.due("keepers(1, NONE)", x.keepers(1, NONE), 0);
    t.due("keepers(1, 0)", x.keepers(1, 0), NONE);
    t.edge(25, "one has the GATES on ROADS with even numbers: alone");
    x = Texts.read(TOLL);
    t.due("keepers(1, NONE)", x.keepers(1, NONE), 4);
    int[] even = {30, 31, 32, 33, NONE};
    for (int i = 0; i < 5; i++) t.due("keepers(1, " + i + ")", x.keepers(1, i), even[i]);
    t.edge(25, "the other one those on others: alone, on the twelfth ROAD");
    x = Texts.read(PAIR + Edges.often("road a b 9;", 11) + "road a b 1 gate;ghost g a b 0 99 1;");
    t.due("keepers(1, NONE)", x.keepers(1, NONE), 4);
    int[] odd = {3, 13, 23, 33, NONE};
    for (int i = 0; i < 5; i++) t.due("keepers(1, " + i + ")", x.keepers(1, i), odd[i]);
    t.edge(25, "one has the even numbers, the other one the others: each of twelve ROADS alone");
    for (int r = 0; r < 12; r++) {
      x = Texts.read(PAIR + Edges.often("road a b 9;", r) + "road a b 1 gate;" + Edges.often("road a b 9;", 11 - r) + "ghost g a b 0 99 1;");
      t.due("keepers(1, NONE) of road " + r, x.keepers(1, NONE), 4);
      t.due("keepers(1, 0) of road " + r, x.keepers(1, 0), r % 2 == 0 ? 30 : 3);
      t.due("keepers(1, 3) of road " + r, x.keepers(1, 3), 33);
    }
    t.edge(25, "the least of all: the less the RATE the more is owed");
    x = Texts.read("place a;place b;place c;place d;road a b 1 gate;road c d 1 gate;ghost g a b 0 99 1;ghost h c d 0 99 1;owes = 3 - rate;");
    t.due("keepers(1, NONE)", x.keepers(1, NONE), 1);
    t.due("keepers(1, 0)", x.keepers(1, 0), 0);
    t.due("keepers(1, 1)", x.keepers(1, 1), NONE);
    t.edge(25, "neither took more: as much is not more");
    x = Texts.read(PAIR + "road a b 1 gate;ghost g a b 0 2 1;");
    t.due("keepers(1, NONE)", x.keepers(1, NONE), 8);
    t.due("keepers(1, 0)", x.keepers(1, 0), 20);
    t.due("keepers(1, 7)", x.keepers(1, 7), 33);
    t.edge(25, "each sets a RATE 0 .. 3, whichever the RATE is now; it stays");
    x = Texts.read(TOLL);
    x.rate(9);
    t.due("keepers(1, 0)", x.keepers(1, 0), 30);
    t.due("count(4)", x.count(4), 9);
  }

  private static void breaks() {
    t.edge(26, "behind how many NIGHTS (0 .. 200): 0, 1, 200; -2: not");
    for (int bears : new int[] {0, 1, 2, 199, 200}) t.due("breaks(0) of " + bears, Texts.read(ONE + "bears = " + bears + ";").breaks(0), bears);
    t.due("breaks(0) of 201", Texts.read(ONE + "bears = 201;").breaks(0), -2);
    t.due("breaks(0) of 999", Texts.read(ONE + "bears = 999;").breaks(0), -2);
    t.due("breaks(0) of a ROAD that nobody goes", Texts.read(PAIR + "road a b 1;").breaks(0), -2);
    t.edge(26, "by the night alone, at the last one");
    t.due("breaks(0) in night 200", Texts.read(PAIR + "road a b 1;bears = 200 - night;").breaks(0), 200);
    t.due("breaks(0) in night 201", Texts.read(PAIR + "road a b 1;bears = 201 - night;").breaks(0), -2);
    t.edge(26, "for the first time, though it is whole again behind it");
    GhostPike x = Texts.read(PAIR + "road a b 1;bears = if night < 5 then 9 else if night < 6 then 0 else 9;");
    t.due("breaks(0)", x.breaks(0), 5);
    x.nights(5);
    t.due("breaks(0) in night 5", x.breaks(0), 0);
    x.nights(1);
    t.due("breaks(0) in night 6", x.breaks(0), -2);
    t.edge(26, "counted from now on");
    x = Texts.read(ONE + "bears = 201;");
    x.nights(1);
    t.due("breaks(0) in night 1", x.breaks(0), 200);
    x.nights(30);
    t.due("breaks(0) in night 31", x.breaks(0), 170);
    t.edge(26, "NONE: no such ROAD");
    t.due("breaks(1)", x.breaks(1), NONE);
    t.due("breaks(-1)", x.breaks(-1), NONE);
    for (int far : Edges.FAR) t.due("breaks(" + far + ")", x.breaks(far), NONE);
    x = Texts.read(FULL + "bears = 11 - which;");
    t.due("breaks(11)", x.breaks(11), 0);
    t.due("breaks(12)", x.breaks(12), NONE);
  }

  private static void first() {
    t.edge(27, "what 0, 1; NONE for others");
    GhostPike x = Texts.read(ONE + "bears = 2;");
    t.due("first(0)", x.first(0), 0);
    t.due("first(1)", x.first(1), 2);
    t.due("first(2)", x.first(2), NONE);
    t.due("first(-1)", x.first(-1), NONE);
    for (int far : Edges.FAR) t.due("first(" + far + ")", x.first(far), NONE);
    t.edge(27, "behind how many NIGHTS: 1, 200; -2: none");
    for (int bears : new int[] {1, 200}) {
      x = Texts.read(ONE + "bears = " + bears + ";");
      t.due("first(0) of " + bears, x.first(0), 0);
      t.due("first(1) of " + bears, x.first(1), bears);
    }
    for (String text : new String[] {"", PAIR + "road a b 1;", ONE + "bears = 201;", ONE + "bears = 0;"}) {
      x = Texts.read(text);
      t.due("first(0) of " + text, x.first(0), -2);
      t.due("first(1) of " + text, x.first(1), -2);
    }
    t.edge(27, "of ROADS not BROKEN now");
    x = Texts.read(PAIR + "road a b 1;road a b 2;ghost g a b 0 0 1;bears = which * 3;");
    t.due("first(0)", x.first(0), 1);
    t.due("first(1)", x.first(1), 3);
    t.edge(27, "BROKEN now, whole again and BROKEN again: it is none of them");
    x = Texts.read(PAIR + "road a b 1;road a b 9;ghost g a b 0 0 1;bears = if night < 1 then which * 9 else if night < 3 then 2 else 0;");
    t.due("first(0)", x.first(0), 1);
    t.due("first(1)", x.first(1), 3);
    t.edge(27, "of one NIGHT the first by number");
    x = Texts.read(PAIR + "road a b 1;road a b 1;road a b 1;bears = if which < 1 then 9 else 4 - night;");
    t.due("first(0)", x.first(0), 1);
    t.due("first(1)", x.first(1), 4);
    t.edge(27, "the twelfth ROAD");
    x = Texts.read(PAIR + Edges.often("road a b 9;", 11) + "road a b 1;ghost g a b 0 0 1;bears = 2;");
    t.due("first(0)", x.first(0), 11);
    t.due("first(1)", x.first(1), 2);
  }

  private static void meets() {
    GhostPike x = Texts.read(PAIR + "ghost g a b 0 0 9;ghost h a b 0 0 1;ghost i a b 0 0 8;ghost k a b 0 0 1;");
    t.edge(28, "the first night: this one");
    t.due("meets(0, 1) in night 0", x.meets(0, 1), 0);
    t.due("meets(1, 3) in night 0", x.meets(1, 3), 0);
    t.edge(28, "NONE: no such ones, one and the same");
    for (int[] bad : new int[][] {{0, 0}, {3, 3}, {0, 4}, {4, 0}, {4, 4}, {-1, 0}, {0, -1}, {-1, -1}}) t.due("meets(" + bad[0] + ", " + bad[1] + ")", x.meets(bad[0], bad[1]), NONE);
    for (int far : Edges.FAR) {
      t.due("meets(0, " + far + ")", x.meets(0, far), NONE);
      t.due("meets(" + far + ", 0)", x.meets(far, 0), NONE);
      t.due("meets(" + far + ", " + far + ")", x.meets(far, far), NONE);
    }
    t.edge(28, "the first night: a later one");
    x.nights(1);
    t.due("meets(0, 1) in night 1", x.meets(0, 1), 9);
    t.due("meets(1, 3) in night 1", x.meets(1, 3), 1);
    t.due("meets(0, 2) in night 1", x.meets(0, 2), 72);
    t.due("meets(2, 0) in night 1", x.meets(2, 0), 72);
    t.edge(28, "99 at most; -2: not by then");
    for (int i = 0; i < 3; i++) x.nights(30);
    t.due("meets(0, 1) in night 91", x.meets(0, 1), 99);
    t.due("meets(0, 2) in night 91", x.meets(0, 2), -2);
    x.nights(8);
    t.due("meets(0, 1) in night 99", x.meets(0, 1), 99);
    t.due("meets(1, 3) in night 99", x.meets(1, 3), 99);
    x.nights(1);
    t.due("meets(0, 1) in night 100", x.meets(0, 1), -2);
    t.due("meets(1, 3) in night 100, which is their night", x.meets(1, 3), -2);
    t.edge(28, "whether they have a WAY or not, the seventh GHOST, too");
    x = Texts.read(FULL + "bears = 0;");
    t.due("meets(6, 0)", x.meets(6, 0), 0);
    t.due("meets(6, 7)", x.meets(6, 7), NONE);
  }

  private static void cutOff() {
    t.edge(29, "behind how many NIGHTS (0 .. 200): 0, 1, 200; -2: not");
    for (int bears : new int[] {0, 1, 2, 199, 200}) t.due("cutOff(0) of " + bears, Texts.read(ONE + "bears = " + bears + ";").cutOff(0), bears);
    t.due("cutOff(0) of 201", Texts.read(ONE + "bears = 201;").cutOff(0), -2);
    t.due("cutOff(0) of 999", Texts.read(ONE + "bears = 999;").cutOff(0), -2);
    t.due("cutOff(0) who never had one", Texts.read(PAIR + "ghost g a b 0 0 1;").cutOff(0), 0);
    t.edge(29, "for the first time, though he has one again behind it; in a night that is not his");
    GhostPike x = Texts.read(PAIR + "road a b 1;ghost g a b 0 0 9;bears = if night < 5 then 9 else if night < 6 then 0 else 9;");
    t.due("cutOff(0)", x.cutOff(0), 5);
    x.nights(6);
    t.due("cutOff(0) in night 6: he goes in 0, 9 .. 72", x.cutOff(0), 67);
    t.edge(29, "not as long as there is a way round");
    x = Texts.read(PAIR + "road a b 1;road a b 9;ghost g a b 0 0 1;bears = 3 + which;");
    t.due("breaks(0)", x.breaks(0), 3);
    t.due("cutOff(0)", x.cutOff(0), 7);
    t.edge(29, "by others who wear his ROAD");
    x = Texts.read(PAIR + "road a b 1;ghost g a b 0 0 9;ghost h b a 0 0 1;bears = 6;");
    t.due("cutOff(0)", x.cutOff(0), 5);
    t.edge(29, "NONE: no such GHOST");
    t.due("cutOff(2)", x.cutOff(2), NONE);
    t.due("cutOff(-1)", x.cutOff(-1), NONE);
    for (int far : Edges.FAR) t.due("cutOff(" + far + ")", x.cutOff(far), NONE);
    x = Texts.read(FULL + "bears = 7;");
    t.due("cutOff(6): twelve ROADS of 7 bear 84", x.cutOff(6), 12);
    t.due("cutOff(7)", x.cutOff(7), NONE);
  }

  private static void year() {
    // He pays 1 in each night of FOG. By FOG 50 and n 10 there are 4, 4, 3, 8 nights of it for the SEEDS 9998 .. 10001.
    String text = PAIR + "road a b 1 gate;ghost g a b 0 9 1;owes = foggy;fog 50;bears = 999;";
    GhostPike x = Texts.read(text + "seed 9998;");
    t.edge(30, "by s SEEDS (1 .. 20) from the text's SEED on, above 9999, too");
    int[] sums = {4, 8, 11, 19};
    for (int s = 1; s <= 4; s++) t.due("year(10, " + s + ")", x.year(10, s), sums[s - 1]);
    t.edge(30, "s 20, one SEED by itself added to nineteen");
    int by19 = x.year(10, 19), by20 = x.year(10, 20);
    // SEED 10017 has LOTS of which so many are below 50.
    int last = 0;
    for (int n = 0; n < 10; n++) if (lot(10017, n) < 50) last++;
    t.due("year(10, 20) - year(10, 19)", by20 - by19, last);
    t.edge(30, "n NIGHTS (0 .. 60)");
    t.due("year(0, 1)", x.year(0, 1), 0);
    t.due("year(0, 20)", x.year(0, 20), 0);
    x = Texts.read(TOLL + "bears = 999;");
    t.due("year(1, 1)", x.year(1, 1), 1);
    t.due("year(60, 1)", x.year(60, 1), 60);
    t.due("year(60, 20)", x.year(60, 20), 1200);
    t.edge(30, "NONE: no such ones");
    for (int[] bad : new int[][] {{-1, 1}, {61, 1}, {1, 0}, {1, 21}, {1, -1}, {61, 21}, {0, 0}}) t.due("year(" + bad[0] + ", " + bad[1] + ")", x.year(bad[0], bad[1]), NONE);
    for (int far : Edges.FAR) {
      t.due("year(" + far + ", 1)", x.year(far, 1), NONE);
      t.due("year(1, " + far + ")", x.year(1, far), NONE);
    }
    t.edge(30, "FOG 0, FOG 100: every SEED is alike");
    t.due("year(10, 20) by fog 0", Texts.read(text + "fog 0;").year(10, 20), 0);
    t.due("year(10, 20) by fog 100", Texts.read(text + "fog 100;").year(10, 20), 200);
    t.edge(30, "FOG 1, FOG 99: one SEED is not as the next");
    // LOT of night 0 is 0 for SEED 15 and 99 for SEED 226, neither for those next to them.
    t.due("year(1, 3) by fog 1", Texts.read(text + "fog 1;seed 14;").year(1, 3), 1);
    t.due("year(1, 3) by fog 99", Texts.read(text + "fog 99;seed 225;").year(1, 3), 2);
    t.edge(30, "OWES and FEARS that both look at the FOG");
    // LOTS of SEEDS 0 and 1: 21, 46, 98 and 36, 17, 64
    GhostPike both = Texts.read(PAIR + "road a b 1 gate;road a b 1 field;ghost g a b 0 9 1;owes = 2 + foggy;fears = foggy * 9;fog 40;");
    t.due("year(3, 1)", both.year(3, 1), 3);
    t.due("year(3, 2)", both.year(3, 2), 9);
    t.edge(30, "how much the TILL grows from now on");
    x = Texts.read(text);
    x.nights(2);
    t.due("count(5)", x.count(5), 2);
    t.due("year(2, 1): LOTS 98, 14", x.year(2, 1), 1);
    t.due("count(7): the text's SEED stays", x.count(7), 0);
    t.edge(30, "FEARS that look at the FOG send him by the GATE");
    x = Texts.read(PAIR + "road a b 1 field;road a b 3 gate;ghost g a b 0 9 1;owes = 2;fears = foggy * 9;fog 50;");
    t.due("year(3, 1): LOTS 21, 46, 98", x.year(3, 1), 4);
  }

  private static int lot(int seed, int which) {
    int h = seed;
    for (int it : new int[] {73, which}) {
      h = (h ^ it) * 1103515245 + 12345;
      h ^= h >>> 15;
    }
    return (h >>> 1) % 100;
  }

  private static void sheet() {
    t.edge(31, "LAMP at its ends, (0 by 1)");
    int[][] lamps = {{0, 0, 0, 1, 0, 1}, {0, 100, 0, 1, 0, 1}, {100, 0, 0, 1, 1, 1}, {100, 100, 1, 1, 0, 1}, {0, 50, 0, 1, 0, 1},
        {100, 50, 1, 1, 1, 1}, {50, 0, 0, 1, 1, 1}, {50, 100, 1, 1, 0, 1}};
    lamps(lamps);
    t.edge(31, "as a fraction that cannot be lessened");
    lamps(new int[][] {{10, 20, 1, 37, 4, 13}, {50, 50, 1, 2, 1, 2}, {1, 1, 1, 9802, 1, 2}, {99, 99, 9801, 9802, 1, 2}, {20, 20, 1, 17, 1, 2},
        {1, 99, 1, 2, 1, 9802}, {99, 1, 1, 2, 9801, 9802}, {7, 3, 21, 9042, 679, 958}});
  }

  private static void lamps(int[][] lamps) {
    for (int[] l : lamps) {
      GhostPike x = Texts.read("lamp " + l[0] + " " + l[1] + ";");
      int[] got = {x.sheet(true, false), x.sheet(true, true), x.sheet(false, false), x.sheet(false, true)};
      int a = gcd(l[2], l[3]), b = gcd(l[4], l[5]);
      int[] due = {l[2] / a, l[3] / a, l[4] / b, l[5] / b};
      for (int i = 0; i < 4; i++) t.due("lamp " + l[0] + " " + l[1] + ", " + i, got[i], due[i]);
    }
  }

  private static int gcd(int a, int b) { return b == 0 ? a : gcd(b, a % b); }

  private static void nothingHappens() {
    String[] names = {"tonight", "put", "free", "stop", "saves", "pays", "seen", "busiest", "best", "keepers", "breaks", "first", "meets",
        "cutOff", "year", "sheet", "way", "wayAt", "cost", "who", "watch", "place"};
    for (int i = 0; i < names.length; i++) {
      t.edge(16 + Math.min(i, 15), "What would be (nothing happens): " + names[i]);
      GhostPike x = busy();
      int[] before = Edges.sight(x);
      for (int twice = 0; twice < 2; twice++) {
        int first = ask(x, i);
        t.same(names[i], before, x);
        t.due(names[i] + " asked again", ask(x, i), first);
      }
      t.due("undo()", x.undo(), true);
      t.due("count(4)", x.count(4), 1);
      t.due("restore(1)", x.restore(1), true);
      t.same("restore(1)", withoutUndo(before), x);
    }
  }

  private static int[] withoutUndo(int[] sight) {
    int[] row = sight.clone();
    row[9] = 0;
    return row;
  }

  private static int ask(GhostPike x, int i) {
    switch (i) {
      case 0: return x.tonight(0) * 10000 + x.tonight(1) * 100 + x.tonight(2);
      case 1: return x.put(1, 9, 0) * 100 + x.put(2, 9, 1);
      case 2: return x.free();
      case 3: return x.stop(0) * 100 + x.stop(1);
      case 4: return x.saves(0);
      case 5: return x.pays(0, 60);
      case 6: return x.seen(0, 60);
      case 7: return x.busiest(60, 0) * 1000 + x.busiest(60, 1);
      case 8: return x.best(30, 0) * 1000 + x.best(30, 1);
      case 9: return x.keepers(9, NONE);
      case 10: return x.breaks(0);
      case 11: return x.first(0) * 1000 + x.first(1);
      case 12: return x.meets(0, 1);
      case 13: return x.cutOff(0);
      case 14: return x.year(60, 20);
      case 15: return x.sheet(true, true);
      case 16: return x.way(0, 0);
      case 17: return x.wayAt(0, 0);
      case 18: return x.cost(0, 0);
      case 19: return x.who(1, NONE);
      case 20: return x.watch(1, 30);
      default: return x.place();
    }
  }

  private static void tell() {
    t.edge(32, "its number; 20 at most, numbered from 0 on");
    GhostPike x = Texts.read(FIELD + "road a b 9;road a b 9 field;");
    for (int i = 0; i < 20; i++) t.due("tell " + i, x.tell(i % 2 * 2, i, i % 3 == 0), i);
    t.edge(32, "NONE, and nothing happens: 20 are there");
    int[] before = Edges.sight(x);
    t.due("tell 20", x.tell(0, 0, true), NONE);
    t.due("tell 20 again", x.tell(2, 30, false), NONE);
    t.same("tell 20", before, x);
    t.due("count(10)", x.count(10), 20);
    t.edge(32, "forgotten: 20 again");
    x.forget();
    for (int i = 0; i < 20; i++) t.due("tell " + i + " anew", x.tell(0, i, true), i);
    t.due("tell 20 anew", x.tell(0, 0, true), NONE);
    t.due("who(20, 0)", x.who(20, 0), 1);
    t.due("who(20, NONE)", x.who(20, NONE), 1);
    t.edge(32, "NONE, and nothing happens: no such ROAD, no such night, no FIELD");
    x = busy();
    before = Edges.sight(x);
    for (boolean seen : new boolean[] {true, false}) {
      t.due("tell(2, 0, " + seen + ")", x.tell(2, 0, seen), NONE);
      t.due("tell(-1, 0, " + seen + ")", x.tell(-1, 0, seen), NONE);
      t.due("tell(0, -1, " + seen + ")", x.tell(0, -1, seen), NONE);
      t.due("tell(0, 31, " + seen + ")", x.tell(0, 31, seen), NONE);
      t.due("tell(1, 0, " + seen + "), no FIELD", x.tell(1, 0, seen), NONE);
      for (int far : Edges.FAR) {
        t.due("tell(" + far + ", 0, " + seen + ")", x.tell(far, 0, seen), NONE);
        t.due("tell(0, " + far + ", " + seen + ")", x.tell(0, far, seen), NONE);
      }
    }
    t.same("tell of no such ones", before, x);
    t.edge(32, "in a night 0 .. 30");
    x = Texts.read(FIELD);
    t.due("tell(0, 0, true)", x.tell(0, 0, true), 0);
    t.due("tell(0, 30, true)", x.tell(0, 30, true), 1);
    t.edge(32, "the same again, its contrary: TOLD, too");
    t.due("tell(0, 0, true) again", x.tell(0, 0, true), 2);
    t.due("tell(0, 0, false)", x.tell(0, 0, false), 3);
    t.edge(32, "the twelfth ROAD");
    x = Texts.read(PAIR + Edges.often("road a b 9;", 11) + "road a b 1 field;ghost g a b 0 0 1;");
    t.due("tell(11, 0, true)", x.tell(11, 0, true), 0);
    t.due("tell(12, 0, true)", x.tell(12, 0, true), NONE);
    t.due("who(1, 0)", x.who(1, 0), 1);
  }

  private static void forget() {
    t.edge(33, "how many there were: none, one, 20");
    GhostPike x = Texts.read(FIELD);
    t.due("forget()", x.forget(), 0);
    x.tell(0, 0, true);
    t.due("forget() of one", x.forget(), 1);
    t.due("forget() again", x.forget(), 0);
    for (int i = 0; i < 21; i++) x.tell(0, i, true);
    t.due("forget() of 20", x.forget(), 20);
    t.edge(33, "All that was TOLD is forgotten: nothing is KNOWN");
    t.due("count(10)", x.count(10), 0);
    t.due("who(1, NONE)", x.who(1, NONE), NONE);
    t.due("who(0, NONE)", x.who(0, NONE), 2);
    t.edge(33, "it is no thing done");
    t.due("undo()", x.undo(), false);
    t.edge(33, "what is TOLD anew is not mixed with what was");
    x.tell(0, 0, false);
    x.forget();
    x.tell(0, 3, true);
    t.due("who(1, NONE)", x.who(1, NONE), 1);
    t.due("who(1, 0)", x.who(1, 0), 1);
  }

  private static void who() {
    t.edge(34, "sets of GHOSTS: without GHOSTS one, of seven 128");
    GhostPike x = Texts.read(PAIR + "road a b 1 field;");
    t.due("who(0, NONE)", x.who(0, NONE), 1);
    t.due("who(0, 0)", x.who(0, 0), 0);
    t.due("who(0, 1)", x.who(0, 1), NONE);
    x.tell(0, 0, true);
    t.due("who(1, NONE) without GHOSTS", x.who(1, NONE), 0);
    t.due("who(1, 0) without GHOSTS", x.who(1, 0), NONE);
    x = Texts.read(PAIR + "road a b 1 field;" + Edges.letters("ghost g# a b 0 9 1;", 7));
    t.due("who(0, NONE) of seven", x.who(0, NONE), 128);
    t.due("who(0, 0)", x.who(0, 0), 0);
    t.due("who(0, 127)", x.who(0, 127), 127);
    t.due("who(0, 128)", x.who(0, 128), NONE);
    t.edge(34, "the i-th (bits, the least first)");
    x.tell(0, 0, true);
    t.due("who(1, NONE)", x.who(1, NONE), 127);
    for (int i = 0; i < 127; i++) t.due("who(1, " + i + ")", x.who(1, i), i + 1);
    t.due("who(1, 127)", x.who(1, 127), NONE);
    t.edge(34, "KNOWN by k: the first k: none, some, all");
    x.tell(0, 0, false);
    t.due("who(0, NONE)", x.who(0, NONE), 128);
    t.due("who(1, NONE)", x.who(1, NONE), 127);
    t.due("who(2, NONE)", x.who(2, NONE), 0);
    t.due("who(2, 0)", x.who(2, 0), NONE);
    t.edge(34, "NONE: no such ones, not so many");
    t.due("who(3, NONE)", x.who(3, NONE), NONE);
    t.due("who(-1, NONE)", x.who(-1, NONE), NONE);
    t.due("who(0, -2)", x.who(0, -2), NONE);
    for (int far : Edges.FAR) {
      t.due("who(" + far + ", NONE)", x.who(far, NONE), NONE);
      t.due("who(0, " + far + ")", x.who(0, far), NONE);
    }
    t.edge(34, "night 0, night 30: who goes every 9 is not SEEN then; a ROAD that breaks just then");
    x = Texts.read(PAIR + "road a b 1 field;ghost g a b 0 0 1;ghost h a b 0 0 9;bears = 30;");
    x.tell(0, 30, true);
    t.due("who(1, NONE)", x.who(1, NONE), 0);
    x.forget();
    x.tell(0, 29, true);
    t.due("who(1, NONE) in night 29", x.who(1, NONE), 1);
    t.due("who(1, 0) in night 29", x.who(1, 0), 1);
    x.forget();
    x.tell(0, 27, true);
    x.tell(0, 26, false);
    t.due("who(1, NONE) in night 27", x.who(1, NONE), 2);
    t.due("who(1, 0): g alone", x.who(1, 0), 1);
    t.due("who(1, 1): h alone; both have broken it in night 26", x.who(1, 1), 2);
    t.due("who(2, NONE)", x.who(2, NONE), 1);
    t.due("who(2, 0)", x.who(2, 0), 2);
    t.edge(34, "from the text's begin, nothing by hand: GATES, RATE, WEAR, nights of now are not asked for");
    x = Texts.read(PAIR + "road a b 1 gate;road a b 2 field;ghost g a b 0 9 1;owes = rate * 9;fears = 1;bears = 30;");
    x.tell(1, 0, true);
    t.due("who(1, NONE)", x.who(1, NONE), 1);
    x.rate(0);
    x.gate(0, false);
    x.nights(30);
    t.due("who(1, NONE) behind", x.who(1, NONE), 1);
    t.due("who(1, 0) behind", x.who(1, 0), 1);
    t.edge(34, "a later night, asked when an earlier one is known; another text behind it");
    String two = PAIR + "road a b 1 field;ghost g a b 0 0 2;ghost h b a 0 0 3;bears = ";
    x = Texts.read(two + "6;");
    x.tell(0, 1, false);
    t.due("who(1, NONE)", x.who(1, NONE), 4);
    x.tell(0, 8, true);
    t.due("who(2, NONE): g alone; both have broken it in night 8", x.who(2, NONE), 1);
    t.due("who(2, 0)", x.who(2, 0), 1);
    x.tell(0, 15, false);
    t.due("who(3, NONE)", x.who(3, NONE), 1);
    Texts.put(x, two + "2;");
    x.read();
    x.tell(0, 2, true);
    t.due("who(1, NONE) of another text", x.who(1, NONE), 1);
    t.due("who(1, 0) of another text", x.who(1, 0), 1);
    x.tell(0, 3, true);
    t.due("who(2, NONE) of another text", x.who(2, NONE), 0);
    t.edge(34, "a set's own WEAR: one may be SEEN because another is not there");
    x = Texts.read(PAIR + "road a b 1 field;road a b 2 field;ghost g a b 0 0 1;ghost h a b 0 0 1;fears = 0;bears = 1;");
    x.tell(1, 0, true);
    t.due("who(1, NONE)", x.who(1, NONE), 1);
    t.due("who(1, 0)", x.who(1, 0), 3);
    x.forget();
    x.tell(1, 1, true);
    t.due("who(1, NONE) in night 1", x.who(1, NONE), 2);
    t.due("who(1, 0) in night 1", x.who(1, 0), 1);
    t.due("who(1, 1) in night 1", x.who(1, 1), 2);
  }

  private static void watch() {
    t.edge(35, "night 0 .. 30");
    GhostPike x = Texts.read(FIELD);
    t.due("watch(0, 0)", x.watch(0, 0), 0);
    t.due("watch(0, 30)", x.watch(0, 30), 0);
    t.edge(35, "NONE: no such ones");
    t.due("watch(0, 31)", x.watch(0, 31), NONE);
    t.due("watch(0, -1)", x.watch(0, -1), NONE);
    t.due("watch(1, 0)", x.watch(1, 0), NONE);
    t.due("watch(-1, 0)", x.watch(-1, 0), NONE);
    for (int far : Edges.FAR) {
      t.due("watch(" + far + ", 0)", x.watch(far, 0), NONE);
      t.due("watch(0, " + far + ")", x.watch(0, far), NONE);
    }
    t.edge(35, "-2: no ROAD over a FIELD; NONE ahead of it");
    for (String text : new String[] {"", PAIR, ONE, PAIR + "road a b 1 gate;"}) {
      GhostPike y = Texts.read(text);
      t.due("watch(0, 0) of " + text, y.watch(0, 0), -2);
      t.due("watch(0, 30) of " + text, y.watch(0, 30), -2);
      t.due("watch(0, 31) of " + text, y.watch(0, 31), NONE);
      t.due("watch(1, 0) of " + text, y.watch(1, 0), NONE);
    }
    t.edge(35, "of alike ones the first: nobody is SEEN on any; no ROAD that is over no FIELD");
    x = Texts.read(PAIR + "road a b 1;road a b 9 field;road a b 9 field;ghost g a b 0 0 1;");
    t.due("watch(0, 0)", x.watch(0, 0), 1);
    t.edge(35, "no set is left: the first ROAD over a FIELD");
    x.tell(2, 0, true);
    t.due("who(1, NONE)", x.who(1, NONE), 0);
    t.due("watch(1, 0)", x.watch(1, 0), 1);
    t.edge(35, "the fewest of these sets are left, at worst: half of them");
    x = Texts.read("place a;place b;place c;road a b 1 field;road b c 1 field;ghost g a b 0 0 1;ghost h a c 0 0 1;ghost i a b 0 0 1;");
    // road 0 shows 7 of 8, road 1 shows 4 of 8
    t.due("watch(0, 0)", x.watch(0, 0), 1);
    t.edge(35, "the fewest at worst: the set of nobody counts, too");
    // road 0 shows if both are there, 1 of 4; road 1 shows h, 2 of 4
    x = Texts.read("place a;place b;place c;road a b 9 field;road b c 1 field;road a b 1;ghost h c a 0 0 1;ghost g a b 0 0 1;fears = 0;bears = 1;");
    t.due("watch(0, 0)", x.watch(0, 0), 1);
    t.edge(35, "the fewest at worst: 3 of 4 shown, 2 of 4 shown; the other way round");
    x = Texts.read("place a;place b;place c;road a b 1 field;road b c 1 field;ghost g a c 0 0 1;ghost h a b 0 0 1;");
    t.due("watch(0, 0)", x.watch(0, 0), 1);
    x = Texts.read("place a;place b;place c;road b c 1 field;road a b 1 field;ghost g a c 0 0 1;ghost h a b 0 0 1;");
    t.due("watch(0, 0) the other way round", x.watch(0, 0), 0);
    t.edge(35, "all of 128 sets are left: the first");
    x = Texts.read(PAIR + "road a b 1;road a b 9 field;road a b 9 field;" + Edges.letters("ghost g# a b 0 0 1;", 7));
    t.due("watch(0, 0)", x.watch(0, 0), 1);
    t.edge(35, "as KNOWN by k: what is known already says nothing more");
    x = Texts.read("place a;place b;place c;road a b 1 field;road b c 1 field;ghost g a b 0 0 1;ghost h a c 0 0 1;ghost i a b 0 0 1;");
    x.tell(1, 0, true);
    t.due("watch(1, 0): both leave all four, the first", x.watch(1, 0), 0);
    t.due("watch(0, 0): as known by 0", x.watch(0, 0), 1);
    x.forget();
    x.tell(1, 0, false);
    t.due("watch(1, 0): three of four", x.watch(1, 0), 0);
    t.edge(35, "the twelfth ROAD");
    x = Texts.read(PAIR + Edges.often("road a b 9;", 11) + "road a b 1 field;ghost g a b 0 0 1;");
    t.due("watch(0, 0)", x.watch(0, 0), 11);
  }

  private static void hold() {
    t.edge(36, "a SLOT (0 .. 2): true; false: no such one");
    GhostPike x = busy();
    int[] before = Edges.sight(x);
    t.due("hold(3)", x.hold(3), false);
    t.due("hold(-1)", x.hold(-1), false);
    for (int far : Edges.FAR) t.due("hold(" + far + ")", x.hold(far), false);
    t.same("hold of no such one", before, x);
    for (int slot = 0; slot < 3; slot++) t.due("hold(" + slot + ")", x.hold(slot), true);
    t.due("count(11)", x.count(11), 3);
    t.edge(36, "held again: what was there goes");
    x = Texts.read(ONE);
    x.hold(0);
    x.nights(2);
    t.due("hold(0)", x.hold(0), true);
    t.due("count(11)", x.count(11), 1);
    x.nights(3);
    x.restore(0);
    t.due("count(3)", x.count(3), 2);
    t.edge(36, "each SLOT by itself");
    x = Texts.read(ONE);
    for (int slot = 0; slot < 3; slot++) {
      x.hold(slot);
      x.nights(slot + 1);
    }
    int[] nights = {0, 1, 3};
    for (int slot = 2; slot >= 0; slot--) {
      t.due("restore(" + slot + ")", x.restore(slot), true);
      t.due("count(3)", x.count(3), nights[slot]);
    }
    t.edge(36, "it is no thing done, and leaves what can be undone");
    x = Texts.read(ONE);
    x.nights(1);
    x.hold(0);
    t.due("count(9)", x.count(9), 1);
    t.due("undo()", x.undo(), true);
    t.due("count(3)", x.count(3), 0);
    t.edge(36, "not what is TOLD, nor the tape");
    x = Texts.read(FIELD);
    x.tell(0, 0, true);
    x.feed(0, 0, 0, 0, 0);
    x.hold(0);
    x.tell(0, 1, true);
    x.feed(0, 0, 0, 0, 0);
    x.restore(0);
    t.due("count(8)", x.count(8), 40);
    t.due("count(10)", x.count(10), 2);
    x.forget();
    x.back(40);
    x.restore(0);
    t.due("count(8) behind", x.count(8), 0);
    t.due("count(10) behind", x.count(10), 0);
    t.edge(36, "All that goes on: night, RATE, TILL, GATES, WEAR, who paid, went, STAYED, was SEEN");
    x = Texts.read(PAIR + "road a b 1 field gate;road a b 9;ghost g a b 0 9 1;ghost h a b 0 9 1;bears = 3;");
    x.nights(2);
    x.rate(4);
    x.gate(1, true);
    int[] held = Edges.sight(x);
    x.hold(0);
    x.nights(30);
    x.mend(0);
    x.rate(7);
    x.gate(0, false);
    x.gate(1, false);
    x.restore(0);
    held[9] = 0;
    held[11] = 1;
    t.same("restore(0)", held, x);
  }

  private static void restore() {
    t.edge(37, "false, and nothing happens: no such one, nothing is held");
    GhostPike x = busy();
    int[] before = Edges.sight(x);
    t.due("restore(0)", x.restore(0), false);
    t.due("restore(2)", x.restore(2), false);
    t.due("restore(3)", x.restore(3), false);
    t.due("restore(-1)", x.restore(-1), false);
    for (int far : Edges.FAR) t.due("restore(" + far + ")", x.restore(far), false);
    t.same("restore of no such one", before, x);
    t.due("undo() still", x.undo(), true);
    t.edge(37, "that stays there: it can be gone on from again");
    x = Texts.read(ONE);
    x.hold(1);
    for (int i = 0; i < 3; i++) {
      x.nights(5);
      t.due("restore(1)", x.restore(1), true);
      t.due("count(3)", x.count(3), 0);
      t.due("count(11)", x.count(11), 1);
    }
    t.edge(37, "what is done behind it does not come into the SLOT");
    x.nights(1);
    x.rate(9);
    x.restore(1);
    t.due("count(3)", x.count(3), 0);
    t.due("count(4)", x.count(4), 1);
    t.due("road(0, 5)", x.road(0, 5), 0);
    t.edge(37, "nothing can be undone then");
    x = Texts.read(ONE);
    for (int i = 0; i < 45; i++) x.nights(1);
    x.hold(0);
    x.nights(1);
    t.due("restore(0)", x.restore(0), true);
    t.due("count(9)", x.count(9), 0);
    t.due("undo()", x.undo(), false);
    t.due("count(3)", x.count(3), 45);
    t.edge(37, "what is done then can be");
    x.nights(2);
    t.due("undo()", x.undo(), true);
    t.due("count(3)", x.count(3), 45);
    t.due("undo()", x.undo(), false);
    t.edge(37, "a text puts an end to it: nothing is held");
    Texts.put(x, ONE);
    x.read();
    t.due("restore(0)", x.restore(0), false);
    t.due("count(11)", x.count(11), 0);
    t.edge(37, "what would be is asked anew of what goes on then");
    x = Texts.read(TOLL + "bears = 5;");
    x.hold(0);
    x.nights(4);
    t.due("breaks(0)", x.breaks(0), 1);
    t.due("first(1)", x.first(1), 1);
    t.due("best(9, 1)", x.best(9, 1), 9);
    t.due("busiest(9, 1)", x.busiest(9, 1), 1);
    t.due("put(1, 9, 0)", x.put(1, 9, 0), 1);
    x.restore(0);
    t.due("put(1, 9, 0) restored", x.put(1, 9, 0), 5);
    t.due("busiest(9, 1) restored", x.busiest(9, 1), 5);
    t.due("best(9, 1) restored", x.best(9, 1), 45);
    t.due("first(1) restored", x.first(1), 5);
    t.due("breaks(0) restored", x.breaks(0), 5);
  }

  /** All that is found by a search, as one number. */
  private static int searches(GhostPike x) {
    int sum = 0;
    for (int what = 1; what >= 0; what--) {
      sum = sum * 31 + x.put(1, 2, what);
      sum = sum * 31 + x.put(2, 1, what);
      sum = sum * 31 + x.put(1, 3, what);
      sum = sum * 31 + x.stop(what);
      sum = sum * 31 + x.best(2, what);
      sum = sum * 31 + x.best(9, what);
      sum = sum * 31 + x.busiest(2, what);
      sum = sum * 31 + x.busiest(9, what);
      sum = sum * 31 + x.keepers(2, what);
      sum = sum * 31 + x.keepers(9, what);
      sum = sum * 31 + x.first(what);
    }
    return sum;
  }

  /** What would be hangs on how all is now, however it came to be so, and whatever was asked ahead. */
  private static void askedAnew() {
    String one = PAIR + "road a b 1 gate;road a b 4;road a b 9 field gate;ghost g a b 1 9 1;ghost h b a 3 5 2;owes = rate * kind + wear / 2;bears = 6 + which;";
    String other = PAIR + "road a b 2;road a b 3 gate;road a b 8 gate;ghost g b a 2 7 2;ghost h b a 1 9 1;owes = rate + wear;bears = 9 - which;";
    int[] kinds = {11, 12, 13, 14, 15, 37, 4};
    for (int kind : kinds) {
      t.edge(kind, "what would be is asked anew");
      GhostPike x = Texts.read(one), fresh = Texts.read(one);
      x.nights(4);
      fresh.nights(4);
      if (kind == 15) x.rate(5);
      if (kind == 37) x.hold(0);
      if (kind == 37) x.nights(3);
      searches(x);
      x.put(1, 2, 0);
      switch (kind) {
        case 11: x.gate(0, false); fresh.gate(0, false); break;
        case 12: x.rate(3); fresh.rate(3); break;
        case 13: t.due("mend(0)", x.mend(0), fresh.mend(0)); break;
        case 14: x.nights(2); fresh.nights(2); break;
        case 15: x.undo(); break;
        case 37: x.restore(0); break;
        default:
          Texts.put(x, other);
          x.read();
          fresh = Texts.read(other);
      }
      t.due("put(1, 2, 0)", x.put(1, 2, 0), fresh.put(1, 2, 0));
      t.due("all searches", searches(x), searches(fresh));
    }
    for (int last = 0; last < 6; last++) {
      for (int kind : kinds) {
        t.edge(kind, "what would be is asked anew: the search that was the last one, " + last);
        GhostPike x = Texts.read(one), fresh = Texts.read(one);
        x.nights(2);
        fresh.nights(2);
        if (kind == 15) x.nights(6);
        if (kind == 37) x.hold(0);
        if (kind == 37) x.nights(6);
        search(x, last);
        switch (kind) {
          case 11: x.gate(0, false); fresh.gate(0, false); break;
          case 12: x.rate(3); fresh.rate(3); break;
          case 13: t.due("mend(0)", x.mend(0), fresh.mend(0)); break;
          case 14: x.nights(3); fresh.nights(3); break;
          case 15: x.undo(); break;
          case 37: x.restore(0); break;
          default:
            Texts.put(x, other);
            x.read();
            fresh = Texts.read(other);
        }
        t.due("search " + last, search(x, last), search(fresh, last));
      }
    }
    t.edge(17, "so many GATES in so many NIGHTS: one in two is not two in one");
    GhostPike x = Texts.read("place a;place b;place c;place d;road a b 1;road c d 1;ghost g a b 0 9 1;ghost h c d 0 9 1;owes = 4 + which;");
    t.due("put(1, 2, 0)", x.put(1, 2, 0), 10);
    t.due("put(2, 1, 0)", x.put(2, 1, 0), 9);
    t.due("put(1, 2, 1)", x.put(1, 2, 1), 2);
    t.due("put(2, 1, 1)", x.put(2, 1, 1), 3);
    t.due("put(1, 1, 0)", x.put(1, 1, 0), 5);
  }

  private static int search(GhostPike x, int which) {
    switch (which) {
      case 0: return x.put(1, 3, 0) * 100 + x.put(1, 3, 1);
      case 1: return x.stop(0) * 100 + x.stop(1);
      case 2: return x.best(9, 0) * 1000 + x.best(9, 1);
      case 3: return x.busiest(9, 0) * 100 + x.busiest(9, 1);
      case 4: return x.keepers(9, NONE) * 100 + x.keepers(9, 0);
      default: return x.first(0) * 1000 + x.first(1);
    }
  }

  private static void count() {
    t.edge(38, "what 0 .. 12; NONE for others");
    GhostPike x = busy();
    int[] due = {2, 2, 2, 3, 2, 12, 1, 1, 0, 2, 1, 1, 0};
    for (int i = 0; i < 13; i++) t.due("count(" + i + ")", x.count(i), due[i]);
    t.due("count(13)", x.count(13), NONE);
    t.due("count(-1)", x.count(-1), NONE);
    for (int far : Edges.FAR) t.due("count(" + far + ")", x.count(far), NONE);
    t.edge(38, "full: PLACES, ROADS, GHOSTS, GATES and BROKEN ROADS (bits)");
    x = Texts.read(Edges.letters("place #;", 8) + Edges.often("road a b 1 gate;", 12) + Edges.letters("ghost g# a b 0 9 1;", 7) + "bears = 0;");
    t.due("count(0)", x.count(0), 8);
    t.due("count(1)", x.count(1), 12);
    t.due("count(2)", x.count(2), 7);
    t.due("count(6)", x.count(6), 4095);
    t.due("count(12)", x.count(12), 4095);
    t.edge(38, "BROKEN ROADS (bits): the first, the twelfth");
    t.due("count(12) of the first", Texts.read(FULL + "bears = which;").count(12), 1);
    t.due("count(12) of the twelfth", Texts.read(FULL + "bears = 11 - which;").count(12), 2048);
    t.edge(38, "FOG tonight: of this night, not of the one ahead");
    x = Texts.read("fog 50;");
    int[] fog = {1, 1, 0, 1, 0};
    for (int n = 0; n < 5; n++) {
      t.due("count(7) in night " + n, x.count(7), fog[n]);
      x.nights(1);
    }
    for (int n = 4; n >= 0; n--) {
      x.undo();
      t.due("count(7) undone to night " + n, x.count(7), fog[n]);
    }
    t.edge(38, "the TILL: the most that seven bring in thirty nights");
    x = Texts.read(PAIR + "road a b 1 gate;" + Edges.letters("ghost g# a b 0 99 1;", 7) + "owes = 99;bears = 999;");
    x.nights(30);
    t.due("count(5)", x.count(5), 20790);
  }

  private static void longRun() {
    t.edge(14, "the last of 512 calls: nights far on");
    GhostPike x = Texts.read(PAIR + "road a b 1 field gate;ghost g a b 0 99 1;ghost h b a 0 0 9;owes = rate + night / 99;fog 50;bears = 999;");
    for (int i = 1; i <= 480; i++) t.due("nights(30) " + i, x.nights(30), 30 * i);
    t.due("count(3)", x.count(3), 14400);
    t.due("count(9)", x.count(9), 40);
    t.due("road(0, 5)", x.road(0, 5), 999);
    t.due("road(0, 7)", x.road(0, 7), 999);
    t.due("ghost(0, 5) + ghost(1, 5)", x.ghost(0, 5) + x.ghost(1, 5), 999);
    t.due("ghost(0, 5) + ghost(0, 6)", x.ghost(0, 5) + x.ghost(0, 6), 14400);
    t.due("ghost(1, 5) + ghost(1, 6)", x.ghost(1, 5) + x.ghost(1, 6), 1600);
    t.due("meets(0, 1)", x.meets(0, 1), -2);
    t.due("cost(0, 0)", x.cost(0, 0), 105);
    t.due("cutOff(0)", x.cutOff(0), 0);
    t.due("nights(30)", x.nights(30), 14430);
    t.due("undo()", x.undo(), true);
    t.due("count(3)", x.count(3), 14400);
  }
}
