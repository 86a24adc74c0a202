/** Each promise by itself, with answers that were worked out by hand. */
public final class PromisesTest {
  private static final int NONE = -1;
  private static int wrong = 0;

  private static void due(int promise, String call, long got, long want) {
    if (got != want) { wrong++; System.out.println("promise " + promise + ": " + call + " answered " + got + ", due is " + want); }
  }
  private static void due(int promise, String call, boolean got, boolean want) {
    due(promise, call, got ? 1 : 0, want ? 1 : 0);
  }

  /** Night 0, RATE 1: ann goes 4, COST 9; bob 3 and 2, COST 9; cid 0 (alike to 1) and 2, COST 8. */
  private static final String LINE = "place a;place b;place c;place d;road a b 1 gate;road a b 2;road b c 1 field;"
      + "road c d 3;road a d 9;ghost ann a d 2 5 1;ghost bob d b 0 50 2;ghost cid a c 1 3 3;owes = kind * rate;";
  private static final String PAIR = "place a;place b;";
  private static final String ONE_ROAD = PAIR + "road a b 1;ghost g a b 0 0 1;";

  public static void main(String[] args) {
    newObject();
    feedAndBack();
    readAndPlace();
    roadAndGhost();
    laws();
    fog();
    ways();
    nightsGoBy();
    gateRateMend();
    undo();
    tonight();
    putAndStop();
    freeAndSaves();
    inNights();
    best();
    keepers();
    breaksFirstCutOff();
    meets();
    year();
    sheet();
    dreams();
    slots();
    counts();
    farOff();
    System.out.println(wrong == 0 ? "all promises hold" : wrong + " answers are not as due");
    if (wrong != 0) System.exit(1);
  }

  private static void newObject() {
    GhostPike x = new GhostPike();
    int[] counts = {0, 0, 0, 0, 1, 0, 0, 0, 0, 0, 0, 0, 0};
    for (int i = 0; i < counts.length; i++) due(1, "count(" + i + ")", x.count(i), counts[i]);
    due(1, "place()", x.place(), NONE);
    due(1, "NONE", GhostPike.NONE, -1);
    due(1, "sheet(true, true)", x.sheet(true, true), 37);
    due(1, "undo()", x.undo(), false);
    due(1, "hold(2)", x.hold(2), true);
    due(1, "nights(30)", x.nights(30), 30);
    due(1, "restore(2)", x.restore(2), true);
    due(1, "count(3)", x.count(3), 0);
    due(1, "forget()", x.forget(), 0);
    due(1, "who(0, 0)", x.who(0, 0), 0);
    due(1, "watch(0, 30)", x.watch(0, 30), -2);
    due(1, "watch(1, 0)", x.watch(1, 0), NONE);
    due(1, "rate(2)", x.rate(2), true);
    due(1, "tonight(1)", x.tonight(1), 0);
  }

  private static void feedAndBack() {
    GhostPike x = new GhostPike();
    for (int i = 1; i <= 100; i++) due(2, "feed " + i, x.feed(i, 0, -1, 0x20202020, i), 20 * i);
    due(2, "feed 101", x.feed(0, 0, 0, 0, 0), NONE);
    due(2, "count(8)", x.count(8), 2000);
    due(3, "back(19)", x.back(19), 1981);
    due(2, "feed at 1981", x.feed(0, 0, 0, 0, 0), NONE);
    due(3, "back(1)", x.back(1), 1980);
    due(2, "feed at 1980", x.feed(0, 0, 0, 0, 0), 2000);
    due(3, "back(-1)", x.back(-1), NONE);
    due(3, "back(2001)", x.back(2001), NONE);
    due(3, "back(MIN)", x.back(Integer.MIN_VALUE), NONE);
    due(3, "back(MAX)", x.back(Integer.MAX_VALUE), NONE);
    due(3, "back(0)", x.back(0), 2000);
    due(3, "back(2000)", x.back(2000), 0);
    due(3, "back(1) of nothing", x.back(1), NONE);
    due(3, "back(0) of nothing", x.back(0), 0);
    // 'plac' 'e ab' ';pla' 'ce c' ';   ': the highest byte of each comes first
    due(2, "feed a text", x.feed(0x706c6163, 0x65206162, 0x3b706c61, 0x63652063, 0x3b202020), 20);
    due(4, "read()", x.read(), 0);
    due(38, "count(0)", x.count(0), 2);
    // Bytes above 127 are no TOKENS: 'fog ' '1;' 0x80
    x.feed(0x666f6720, 0x313b8020, 0x20202020, 0x20202020, 0x20202020);
    due(4, "read() of a high byte", x.read(), 1);
    due(5, "place()", x.place(), 6);
    due(4, "count(8)", x.count(8), 0);
  }

  private static void readAndPlace() {
    GhostPike x = Texts.read(LINE);
    x.nights(3);
    x.rate(4);
    x.hold(0);
    x.tell(2, 0, true);
    Texts.put(x, LINE);
    due(4, "read()", x.read(), 0);
    due(4, "wear anew", x.road(4, 5), 0);
    due(4, "seen anew", x.road(2, 7), 0);
    due(4, "paid anew", x.road(0, 8), 0);
    due(4, "ghost paid anew", x.ghost(2, 4), 0);
    due(4, "ghost went anew", x.ghost(0, 5), 0);
    due(4, "ghost seen anew", x.ghost(1, 7), 0);
    int[] counts = {4, 5, 3, 0, 1, 0, 1, 0, 0, 0, 0, 0, 0};
    for (int i = 0; i < counts.length; i++) due(4, "count(" + i + ")", x.count(i), counts[i]);
    Texts.put(x, "place ");
    due(4, "read() at its end", x.read(), 1);
    due(5, "place() at its end", x.place(), 6);
    due(5, "place() again", x.place(), 6);
    due(4, "read() of nothing", x.read(), 0);
    due(5, "place() behind", x.place(), NONE);
    // The last LAW, FOG, LAMP, SEED counts.
    x = Texts.read(PAIR + "road a b 1 gate;ghost g a b 0 9 1;owes=7;owes=2;fog 0;fog 100;lamp 3 3;lamp 50 50;");
    due(4, "cost by the last law", x.cost(0, 0), 3);
    due(4, "the last fog", x.count(7), 1);
    due(4, "the last lamp", x.sheet(true, true), 2);
  }

  private static void roadAndGhost() {
    GhostPike x = Texts.read(LINE);
    int[][] roads = {{0, 1, 1, 0, 1, 0, 0, 0, 0}, {0, 1, 2, 0, 0, 0, 0, 0, 0}, {1, 2, 1, 1, 0, 0, 0, 0, 0},
        {2, 3, 3, 0, 0, 0, 0, 0, 0}, {0, 3, 9, 0, 0, 0, 0, 0, 0}};
    for (int r = 0; r < 5; r++) for (int w = 0; w < 9; w++) due(6, "road(" + r + ", " + w + ")", x.road(r, w), roads[r][w]);
    int[][] ghosts = {{2, 5, 1, 1, 0, 0, 0, 0}, {0, 50, 2, 1, 0, 0, 0, 0}, {1, 3, 3, 1, 0, 0, 0, 0}};
    for (int g = 0; g < 3; g++) for (int w = 0; w < 8; w++) due(7, "ghost(" + g + ", " + w + ")", x.ghost(g, w), ghosts[g][w]);
    x.nights(1);
    int[][] behind = {{1, 0, 0, 1}, {0, 0, 0, 0}, {2, 0, 2, 0}, {1, 0, 0, 0}, {1, 0, 0, 0}};
    for (int r = 0; r < 5; r++) for (int w = 0; w < 4; w++) due(6, "road(" + r + ", " + (5 + w) + ") behind", x.road(r, 5 + w), behind[r][w]);
    int[][] gone = {{1, 0, 1, 0, 0}, {0, 0, 1, 0, 1}, {0, 1, 1, 0, 1}};
    for (int g = 0; g < 3; g++) for (int w = 0; w < 5; w++) due(7, "ghost(" + g + ", " + (3 + w) + ") behind", x.ghost(g, 3 + w), gone[g][w]);
    for (int bad : new int[] {-1, 9, Integer.MAX_VALUE, Integer.MIN_VALUE}) {
      due(6, "road(0, " + bad + ")", x.road(0, bad), NONE);
      due(6, "road(" + bad + ", 0)", x.road(bad, 0), NONE);
      due(7, "ghost(0, " + bad + ")", x.ghost(0, bad), NONE);
      due(7, "ghost(" + bad + ", 0)", x.ghost(bad, 0), NONE);
      due(8, "cost(0, " + bad + ")", x.cost(0, bad), NONE);
      due(8, "cost(" + bad + ", 0)", x.cost(bad, 0), NONE);
    }
    due(6, "road(5, 0)", x.road(5, 0), NONE);
    due(7, "ghost(3, 0)", x.ghost(3, 0), NONE);
    due(7, "ghost(0, 8)", x.ghost(0, 8), NONE);
    due(8, "cost(0, 5)", x.cost(0, 5), NONE);
    due(8, "cost(3, 0)", x.cost(3, 0), NONE);
    // BROKEN or not, a ROAD has its COST.
    GhostPike y = Texts.read(PAIR + "road a b 4 field gate;ghost g a b 3 9 1;bears = 0;owes = 2;fears = 1;");
    due(6, "road(0, 6)", y.road(0, 6), 1);
    due(8, "cost(0, 0)", y.cost(0, 0), 7);
  }

  /** What an OWES law says on a ROAD of 1 hour, with a GATE. */
  private static void law(String law, int value) {
    GhostPike x = Texts.read(PAIR + "road b a 9;road a b 1 gate;ghost f a b 9 9 9;ghost g a b 3 40 2;owes " + law + ";");
    due(8, "owes " + law, x.cost(1, 1) - 1, value);
    x = Texts.read(PAIR + "road b a 9;road a b 1 field;ghost f a b 9 9 9;ghost g a b 3 40 2;fears " + law + ";");
    due(8, "fears " + law, x.cost(1, 1) - 1, value);
  }

  private static void bears(String law, int value) {
    GhostPike x = Texts.read(PAIR + "road a b 7;road a b 1;ghost g a b 3 40 1;bears " + law + ";");
    for (int i = 0; i < value; i++) {
      due(6, "bears " + law + " yet", x.road(1, 6), 0);
      x.nights(1);
    }
    due(6, "bears " + law + " no more", x.road(1, 6), 1);
  }

  private static void laws() {
    law("= 7 - 2 - 1", 4);
    law("= 24 / 4 / 2", 3);
    law("= 24 / 4 * 2", 12);
    law("= 2 + 3 * 4", 14);
    law("= (2 + 3) * 4", 20);
    law("= 2 * 3 + 4 * 5 - 6 / 3", 24);
    law("= 1 + 2 * 3 - 8 / 4 * 3", 1);
    law("= 9 - (4 - (2 - 1))", 6);
    law("= ((((((1 + 2) * 3 - 4) * 5 - 6) * 2))) - 30", 8);
    law("= 7 / 2", 3);
    law("= (0 - 7) / 2 + 10", 7);
    law("= 7 / (0 - 2) + 10", 7);
    law("= 1 - 2", 0);
    law("= 99", 99);
    law("= 100", 99);
    law("= 9999", 99);
    law("= 5 / 0", 0);
    law("= 5 + 0 * (1 / 0)", 0);
    law("= 5 + 0 / 7", 5);
    law("= if 1 < 2 then 3 else 1 / 0", 3);
    law("= if 2 < 1 then 1 / 0 else 6", 6);
    law("= if 1 / 0 < 2 then 3 else 4", 0);
    law("= if 3 < 1 / 0 then 3 else 4", 0);
    law("= if 2 < 2 then 3 else 4", 4);
    law("= if 2 < 1 then 1 else if 1 < 2 then 8 else 9", 8);
    law("= if 1 < 2 then 1 else if 1 < 2 then 8 else 9", 1);
    law("= if 2 < 1 then 1 else if 2 < 1 then 2 else if 2 < 1 then 3 else if 2 < 1 then 4 else 5", 5);
    law("= if 1 < 2 then 3 else if 1 / 0 < 1 then 4 else 5", 3);
    law("= if 2 < 1 then 3 else if 1 / 0 < 1 then 4 else 5", 0);
    law("= if 9999 * 9999 * 9999 < 0 then 1 else 2", 1);
    law("= if (0 - 4096 * 4096 * 128) / (0 - 1) < 0 then 7 else 8", 7);
    law("= if 4096 * 4096 * 128 - 1 < 0 then 7 else 8", 8);
    law("= kind", 3);
    law("= carries", 40);
    law("= every", 2);
    law("= foggy", 0);
    law("= rate", 1);
    law("= hours", 1);
    law("= wear", 0);
    law("= which", 1);
    law("= night", 0);
    law("= kind * 10 + every - which", 31);
    bears("= 3", 3);
    bears("= 0", 0);
    bears("= 0 - 5", 0);
    bears("= hours + which", 2);
    bears("= 4 + kind + carries + every + foggy + rate + wear", 4);
    bears("= 6 - night", 3);
    bears("= 9 / (3 - night)", 3);
    bears("= if night < 4 then 99 else 2", 4);
    // BEARS is held to 999.
    GhostPike x = Texts.read(ONE_ROAD + "bears = 9999;");
    for (int i = 0; i < 33; i++) x.nights(30);
    x.nights(8);
    due(6, "road(0, 6) at 998", x.road(0, 6), 0);
    x.nights(1);
    due(6, "road(0, 6) at 999", x.road(0, 6), 1);
    // if not told: OWES rate, FEARS 5, BEARS 99
    x = Texts.read(PAIR + "road a b 1 field gate;ghost g a b 0 0 1;");
    x.rate(4);
    due(8, "cost by laws not told", x.cost(0, 0), 10);
    for (int i = 0; i < 3; i++) x.nights(30);
    x.nights(8);
    due(6, "road(0, 6) at 98", x.road(0, 6), 0);
    x.nights(1);
    due(6, "road(0, 6) at 99", x.road(0, 6), 1);
    // what changes: rate, wear, night
    x = Texts.read(PAIR + "road a b 1 gate;road a b 9;ghost g a b 0 0 1;owes = rate * 20 + wear * 5 + night;bears = 3;");
    due(8, "cost at first", x.cost(0, 0), 21);
    x.rate(0);
    due(8, "cost by rate 0", x.cost(0, 0), 1);
    x.nights(1);
    due(8, "cost by wear 1, night 1", x.cost(0, 0), 7);
    x.nights(1);
    due(8, "cost by wear 2, night 2", x.cost(0, 0), 13);
    x.nights(1);
    due(8, "cost by wear 2, night 3", x.cost(0, 0), 14);
  }

  private static void fog() {
    // LOT 100 of SEED 0: 21 46 98 14 54 73 30 71 68 76 40 53; of 9999: 77 15 79 42 17 30 50 67 66 97 53 27
    GhostPike x = Texts.read("fog 50;");
    int[] zero = {1, 1, 0, 1, 0, 0, 1, 0, 0, 0, 1, 0};
    for (int n = 0; n < 12; n++) { due(38, "count(7) in night " + n, x.count(7), zero[n]); x.nights(1); }
    x = Texts.read("seed 9999;fog 50;");
    int[] last = {0, 1, 0, 1, 1, 1, 0, 0, 0, 0, 0, 1};
    for (int n = 0; n < 12; n++) { due(38, "count(7) of 9999 in night " + n, x.count(7), last[n]); x.nights(1); }
    due(38, "less than FOG", Texts.read("fog 22;").count(7), 1);
    due(38, "not less than FOG", Texts.read("fog 21;").count(7), 0);
    x = Texts.read(PAIR + "road a b 1 field;ghost g a b 0 0 1;fog 50;fears = 10 + foggy * 7;");
    for (int n = 0; n < 12; n++) { due(8, "cost in night " + n, x.cost(0, 0), 11 + 7 * zero[n]); x.nights(1); }
    x = Texts.read(PAIR + "road a b 1;ghost g a b 0 0 1;fog 100;bears = 2 + foggy;");
    due(6, "foggy is nothing to BEARS", x.breaks(0), 2);
  }

  private static void ways() {
    GhostPike x = Texts.read(LINE);
    int[][] ways = {{9, 9, 1, 0}, {9, 4, 2, 0}, {8, 2, 2, 1}};
    int[][] roads = {{4, NONE, NONE}, {3, 2, NONE}, {0, 2, NONE}};
    for (int g = 0; g < 3; g++) {
      for (int w = 0; w < 4; w++) due(9, "way(" + g + ", " + w + ")", x.way(g, w), ways[g][w]);
      for (int i = 0; i < 3; i++) due(10, "wayAt(" + g + ", " + i + ")", x.wayAt(g, i), roads[g][i]);
    }
    for (int bad : new int[] {-1, 4, 99, Integer.MIN_VALUE}) due(9, "way(0, " + bad + ")", x.way(0, bad), NONE);
    for (int bad : new int[] {-1, 3, Integer.MAX_VALUE}) {
      due(9, "way(" + bad + ", 0)", x.way(bad, 0), NONE);
      due(10, "wayAt(" + bad + ", 0)", x.wayAt(bad, 0), NONE);
    }
    due(10, "wayAt(0, -1)", x.wayAt(0, -1), NONE);
    due(10, "wayAt(0, MAX)", x.wayAt(0, Integer.MAX_VALUE), NONE);
    // alike ones: at each PLACE the first ROAD by number
    x = Texts.read("place a;place b;place c;road b c 1;road a b 1;road a c 2;road b c 1;ghost g a c 0 0 1;ghost h c a 0 0 1;");
    due(10, "wayAt(0, 0)", x.wayAt(0, 0), 1);
    due(10, "wayAt(0, 1)", x.wayAt(0, 1), 0);
    due(10, "wayAt(1, 0)", x.wayAt(1, 0), 0);
    due(10, "wayAt(1, 1)", x.wayAt(1, 1), 1);
    // there is none: asked rightly, -2; what is looked at first goes first
    x = Texts.read("place a;place b;place c;road a b 1;ghost g a c 0 0 1;");
    due(9, "way(0, 0)", x.way(0, 0), -2);
    due(9, "way(0, 3)", x.way(0, 3), -2);
    due(10, "wayAt(0, 0)", x.wayAt(0, 0), -2);
    due(10, "wayAt(0, 7)", x.wayAt(0, 7), -2);
    due(10, "wayAt(0, -1)", x.wayAt(0, -1), NONE);
    due(10, "wayAt(1, 0)", x.wayAt(1, 0), NONE);
    // no more than he CARRIES; the WAY is found by what he OWES
    x = Texts.read("place a;place b;place c;road a b 1 gate;road b c 1 gate;road a c 9;ghost g a c 0 5 1;owes = 3;");
    due(9, "way(0, 0)", x.way(0, 0), 8);
    due(9, "way(0, 3)", x.way(0, 3), 5);
    x.nights(1);
    due(14, "paid on the first", x.road(0, 8), 3);
    due(14, "paid on the second", x.road(1, 8), 2);
    // seven ROADS long, against the order of their numbers
    x = Texts.read("place a;place b;place c;place d;place e;place f;place g;place h;road g h 1;road f g 1;road e f 1;"
        + "road d e 1;road c d 1;road b c 1;road a b 1;road a h 8;ghost z a h 0 0 1;");
    due(9, "way(0, 2)", x.way(0, 2), 7);
    due(9, "way(0, 0)", x.way(0, 0), 7);
    for (int i = 0; i < 7; i++) due(10, "wayAt(0, " + i + ")", x.wayAt(0, i), 6 - i);
    due(10, "wayAt(0, 7)", x.wayAt(0, 7), NONE);
  }

  private static void nightsGoBy() {
    GhostPike x = Texts.read(LINE);
    due(14, "nights(0)", x.nights(0), 0);
    due(15, "undo() of nothing", x.undo(), false);
    due(14, "nights(-1)", x.nights(-1), NONE);
    due(14, "nights(31)", x.nights(31), NONE);
    due(38, "count(9)", x.count(9), 0);
    due(14, "nights(30)", x.nights(30), 30);
    due(14, "ann goes each night", x.ghost(0, 5), 30);
    due(14, "bob goes in nights 0, 2 ..", x.ghost(1, 5), 15);
    due(14, "cid goes in nights 0, 3 ..", x.ghost(2, 5), 10);
    due(14, "seen", x.road(2, 7), 25);
    due(14, "till", x.count(5), 10);
    due(14, "nights(0) behind", x.nights(0), 30);
    due(38, "count(9) behind", x.count(9), 1);
    // One after the other, by how all is just then: the first one breaks the ROAD for the second.
    x = Texts.read(PAIR + "road a b 1;road a b 5;ghost g a b 0 0 1;ghost h b a 0 0 1;ghost i a b 0 0 1;bears = 1;");
    x.nights(1);
    due(14, "road(0, 5)", x.road(0, 5), 1);
    due(14, "road(1, 5)", x.road(1, 5), 1);
    due(14, "ghost(1, 5)", x.ghost(1, 5), 1);
    due(14, "ghost(2, 5)", x.ghost(2, 5), 0);
    due(14, "ghost(2, 6)", x.ghost(2, 6), 1);
    x.nights(1);
    due(14, "ghost(0, 6)", x.ghost(0, 6), 1);
    due(14, "ghost(2, 6) behind", x.ghost(2, 6), 2);
    // What he CARRIES is his anew each night; wear of the same night counts for the next GHOST.
    x = Texts.read(PAIR + "road a b 1 gate;ghost g a b 0 4 1;ghost h a b 0 9 2;owes = 3 + wear;");
    x.nights(1);
    due(14, "ghost(0, 4)", x.ghost(0, 4), 3);
    due(14, "ghost(1, 4)", x.ghost(1, 4), 4);
    x.nights(1);
    due(14, "ghost(0, 4) behind", x.ghost(0, 4), 7);
    due(14, "road(0, 8)", x.road(0, 8), 11);
    due(14, "count(5)", x.count(5), 11);
  }

  private static void gateRateMend() {
    GhostPike x = Texts.read(LINE);
    due(11, "gate(0, true)", x.gate(0, true), false);
    due(11, "gate(1, false)", x.gate(1, false), false);
    due(11, "gate(-1, true)", x.gate(-1, true), false);
    due(11, "gate(5, true)", x.gate(5, true), false);
    due(12, "rate(1)", x.rate(1), false);
    due(12, "rate(-1)", x.rate(-1), false);
    due(12, "rate(10)", x.rate(10), false);
    due(38, "count(9)", x.count(9), 0);
    due(11, "gate(4, true)", x.gate(4, true), true);
    due(38, "count(6)", x.count(6), 17);
    due(6, "road(4, 4)", x.road(4, 4), 1);
    due(9, "way(0, 0)", x.way(0, 0), 11);
    due(10, "wayAt(0, 0)", x.wayAt(0, 0), 1);
    due(11, "gate(0, false)", x.gate(0, false), true);
    due(38, "count(6)", x.count(6), 16);
    due(9, "way(2, 0)", x.way(2, 0), 7);
    due(12, "rate(0)", x.rate(0), true);
    due(38, "count(4)", x.count(4), 0);
    due(9, "way(0, 0) by rate 0", x.way(0, 0), 9);
    due(12, "rate(9)", x.rate(9), true);
    due(38, "count(9)", x.count(9), 4);
    x = Texts.read(PAIR + "road a b 1 gate;road a b 9;ghost g a b 0 2 1;owes = 2;bears = 3;");
    due(13, "mend(-1)", x.mend(-1), NONE);
    due(13, "mend(2)", x.mend(2), NONE);
    due(13, "mend(0) without wear", x.mend(0), -2);
    x.nights(3);
    due(6, "road(0, 6)", x.road(0, 6), 1);
    x.nights(2);
    due(38, "count(5)", x.count(5), 6);
    due(13, "mend(0)", x.mend(0), 3);
    due(6, "road(0, 6)", x.road(0, 6), 0);
    due(6, "road(0, 8)", x.road(0, 8), 6);
    due(13, "mend(0) again", x.mend(0), -2);
    due(13, "mend(1)", x.mend(1), 1);
    due(38, "count(9)", x.count(9), 4);
    x = Texts.read(PAIR + "road a b 1 gate;ghost g a b 0 1 1;owes = 1;");
    x.nights(2);
    due(13, "all that is in it", x.mend(0), 0);
    x.rate(0);
    x = Texts.read(PAIR + "road a b 1 gate;ghost g a b 0 1 1;ghost h a b 0 0 1;");
    x.nights(2);
    due(13, "not so much in it", x.mend(0), -2);
    due(38, "count(5) as it was", x.count(5), 2);
    due(6, "wear as it was", x.road(0, 5), 4);
    due(38, "count(9) as it was", x.count(9), 1);
  }

  private static void undo() {
    GhostPike x = Texts.read(LINE);
    x.nights(6);
    x.gate(3, true);
    x.rate(5);
    due(13, "mend(4)", x.mend(4), -2);
    due(15, "undo() of rate", x.undo(), true);
    due(38, "count(4)", x.count(4), 1);
    due(15, "undo() of gate", x.undo(), true);
    due(38, "count(6)", x.count(6), 1);
    due(13, "mend(0)", x.mend(0), 0);
    due(15, "undo() of mend", x.undo(), true);
    due(38, "count(5)", x.count(5), 2);
    due(6, "road(0, 5)", x.road(0, 5), 2);
    due(15, "undo() of nights", x.undo(), true);
    due(38, "count(3)", x.count(3), 0);
    due(6, "road(2, 5)", x.road(2, 5), 0);
    due(6, "road(2, 7)", x.road(2, 7), 0);
    due(6, "road(0, 8)", x.road(0, 8), 0);
    due(7, "ghost(2, 4)", x.ghost(2, 4), 0);
    due(7, "ghost(0, 5)", x.ghost(0, 5), 0);
    due(7, "ghost(1, 7)", x.ghost(1, 7), 0);
    due(15, "undo() of nothing", x.undo(), false);
    // the last 40
    for (int i = 1; i <= 45; i++) {
      x.nights(i % 2 + 1);
      due(38, "count(9)", x.count(9), Math.min(i, 40));
    }
    int night = x.count(3);
    for (int i = 45; i > 5; i--) {
      due(15, "undo() " + i, x.undo(), true);
      night -= i % 2 + 1;
      due(38, "count(3) behind undo " + i, x.count(3), night);
      due(7, "ghost(0, 5) behind undo " + i, x.ghost(0, 5), night);
    }
    due(15, "the 41st undo()", x.undo(), false);
    due(38, "count(9)", x.count(9), 0);
    x.rate(3);
    due(15, "undo() behind", x.undo(), true);
    due(38, "count(3)", x.count(3), night);
  }

  private static void tonight() {
    GhostPike x = Texts.read(LINE);
    due(16, "tonight(0)", x.tonight(0), 1);
    due(16, "tonight(1)", x.tonight(1), 3);
    due(16, "tonight(2)", x.tonight(2), 2);
    due(16, "tonight(-1)", x.tonight(-1), NONE);
    due(16, "tonight(3)", x.tonight(3), NONE);
    due(16, "nothing happens", x.count(3), 0);
    due(16, "no wear", x.road(2, 5), 0);
    x.nights(1);
    due(16, "tonight(0) in night 1", x.tonight(0), 0);
    due(16, "tonight(1) in night 1", x.tonight(1), 1);
    due(16, "tonight(2) in night 1", x.tonight(2), 0);
    // one after the other; who STAYS does not go
    x = Texts.read(PAIR + "road a b 1 field gate;ghost g a b 0 9 1;ghost h a b 0 9 1;ghost i a b 0 9 1;owes = 2 + wear;bears = 2;");
    due(16, "tonight(0)", x.tonight(0), 5);
    due(16, "tonight(1)", x.tonight(1), 2);
    due(16, "tonight(2)", x.tonight(2), 2);
    due(16, "nobody has gone", x.ghost(0, 5), 0);
  }

  private static void putAndStop() {
    String three = PAIR + "road a b 1;road a b 3;road a b 9;ghost g a b 0 50 1;owes = 4;";
    GhostPike x = Texts.read(three);
    due(17, "put(1, 1, 0)", x.put(1, 1, 0), 0);
    due(17, "put(1, 1, 1)", x.put(1, 1, 1), 1);
    due(17, "put(2, 1, 0)", x.put(2, 1, 0), 4);
    due(17, "put(2, 1, 1)", x.put(2, 1, 1), 3);
    due(17, "put(2, 9, 0)", x.put(2, 9, 0), 36);
    due(17, "put(3, 9, 0)", x.put(3, 9, 0), 36);
    due(17, "put(3, 9, 1)", x.put(3, 9, 1), 7);
    for (int[] bad : new int[][] {{0, 1, 0}, {4, 1, 0}, {1, 0, 0}, {1, 10, 0}, {1, 1, -1}, {1, 1, 2}, {-1, -1, -1}})
      due(17, "put(" + bad[0] + ", " + bad[1] + ", " + bad[2] + ")", x.put(bad[0], bad[1], bad[2]), NONE);
    due(17, "nothing happens", x.count(6), 0);
    due(19, "stop(0)", x.stop(0), 2);
    due(19, "stop(1)", x.stop(1), 3);
    due(19, "stop(-1)", x.stop(-1), NONE);
    due(19, "stop(2)", x.stop(2), NONE);
    due(19, "nothing happens", x.count(6), 0);
    // GATES that are up are down for it
    x.gate(2, true);
    due(17, "put(1, 1, 0) with a gate up", x.put(1, 1, 0), 0);
    due(19, "stop(1) with a gate up", x.stop(1), 3);
    x = Texts.read(PAIR + "road a b 1;road b a 1;ghost g a b 0 50 1;owes = 4;");
    due(17, "put(3, 1, 0) with two roads", x.put(3, 1, 0), -2);
    due(17, "put(3, 0, 0) with two roads", x.put(3, 0, 0), NONE);
    due(17, "put(2, 1, 1)", x.put(2, 1, 1), 3);
    due(17, "put(2, 1, 0)", x.put(2, 1, 0), 4);
    // no more than he CARRIES; a better place further on
    x = Texts.read("place a;place b;place c;road a b 1;road b c 1;ghost g a b 0 3 1;ghost h a c 0 50 1;owes = 2 + 3 * which;");
    due(17, "put(1, 1, 0)", x.put(1, 1, 0), 5);
    due(17, "put(1, 1, 1)", x.put(1, 1, 1), 2);
    due(17, "put(2, 1, 0)", x.put(2, 1, 0), 9);
    due(17, "put(1, 2, 0)", x.put(1, 2, 0), 10);
    due(19, "stop(1)", x.stop(1), 1);
    // nobody can go: no GATE stops nobody
    x = Texts.read("place a;place b;place c;road a b 1;ghost g a c 0 0 1;");
    due(19, "stop(0)", x.stop(0), 0);
    due(19, "stop(1)", x.stop(1), 0);
    // of alike ones the least bits
    x = Texts.read("place a;place b;place c;road a b 1;road b c 1;ghost g a c 0 9 1;owes = 0;");
    due(19, "stop(1)", x.stop(1), 1);
    due(17, "put(1, 1, 1)", x.put(1, 1, 1), 1);
    // A cheap GATE further on stops him, a dear one sends him round.
    x = Texts.read("place a;place b;place c;road a b 1;road a c 5;road b c 1;ghost g a c 0 9 1;owes = if which < 1 then 9 else 1;");
    due(19, "stop(0)", x.stop(0), 1);
    due(19, "stop(1)", x.stop(1), 4);
    due(17, "put(1, 1, 1)", x.put(1, 1, 1), 4);
    // BROKEN ones count as ROADS, but nobody goes there
    x = Texts.read(PAIR + "road a b 1;road a b 2;ghost g a b 0 9 1;owes = 3;bears = which * 9;");
    due(19, "stop(1)", x.stop(1), 2);
    due(17, "put(1, 1, 1)", x.put(1, 1, 1), 2);
  }

  private static void freeAndSaves() {
    GhostPike x = Texts.read(LINE);
    due(18, "free()", x.free(), 3);
    due(20, "saves(0)", x.saves(0), 0);
    due(20, "saves(2)", x.saves(2), 1);
    due(20, "saves(3)", x.saves(3), NONE);
    due(20, "saves(-1)", x.saves(-1), NONE);
    x.gate(4, true);
    x.gate(3, true);
    due(18, "free() with more gates", x.free(), 0);
    due(20, "saves(0) with more gates", x.saves(0), 2);
    x.nights(1);
    due(18, "free() whether it is his night or not", x.free(), 0);
    due(20, "saves(1)", x.saves(1), 0);
    // a GATE at which nothing is owed is a GATE
    x = Texts.read(PAIR + "road a b 1 gate;ghost g a b 0 0 1;owes = 0;");
    due(18, "free()", x.free(), 0);
    x = Texts.read("place a;place b;place c;road a b 1 gate;ghost g a c 0 0 1;ghost h a b 0 0 5;");
    due(18, "free() of those who have no way", x.free(), 0);
    due(20, "saves(0)", x.saves(0), -2);
    x.gate(0, false);
    due(18, "free()", x.free(), 2);
  }

  private static void inNights() {
    GhostPike x = Texts.read(LINE);
    due(21, "pays(2, 0)", x.pays(2, 0), 0);
    due(21, "pays(2, 1)", x.pays(2, 1), 1);
    due(21, "pays(2, 3)", x.pays(2, 3), 1);
    due(21, "pays(2, 4)", x.pays(2, 4), 2);
    due(21, "pays(0, 60)", x.pays(0, 60), 0);
    due(21, "pays(2, -1)", x.pays(2, -1), NONE);
    due(21, "pays(2, 61)", x.pays(2, 61), NONE);
    due(21, "pays(3, 1)", x.pays(3, 1), NONE);
    due(21, "pays(-1, 1)", x.pays(-1, 1), NONE);
    due(22, "seen(2, 0)", x.seen(2, 0), 0);
    due(22, "seen(2, 1)", x.seen(2, 1), 2);
    due(22, "seen(2, 6)", x.seen(2, 6), 5);
    due(22, "seen(0, 6)", x.seen(0, 6), 0);
    due(22, "seen(2, 60)", x.seen(2, 60), 50);
    due(22, "seen(2, 61)", x.seen(2, 61), NONE);
    due(22, "seen(2, -1)", x.seen(2, -1), NONE);
    due(22, "seen(5, 1)", x.seen(5, 1), NONE);
    due(23, "busiest(0, 0)", x.busiest(0, 0), 0);
    due(23, "busiest(0, 1)", x.busiest(0, 1), 0);
    due(23, "busiest(1, 0)", x.busiest(1, 0), 2);
    due(23, "busiest(1, 1)", x.busiest(1, 1), 2);
    due(23, "busiest(6, 0)", x.busiest(6, 0), 4);
    due(23, "busiest(6, 1)", x.busiest(6, 1), 6);
    due(23, "of alike ones the first: busiest(3, 0)", x.busiest(3, 0), 2);
    due(23, "busiest(3, 1)", x.busiest(3, 1), 3);
    due(23, "busiest(60, 1)", x.busiest(60, 1), 60);
    due(23, "busiest(61, 0)", x.busiest(61, 0), NONE);
    due(23, "busiest(-1, 0)", x.busiest(-1, 0), NONE);
    due(23, "busiest(1, 2)", x.busiest(1, 2), NONE);
    due(23, "busiest(1, -1)", x.busiest(1, -1), NONE);
    due(23, "busiest of nothing", new GhostPike().busiest(1, 1), -2);
    due(23, "busiest(61, 0) of nothing", new GhostPike().busiest(61, 0), NONE);
    x.nights(1);
    due(22, "only what is more: seen(2, 5)", x.seen(2, 5), 3);
    due(21, "only what is more: pays(2, 3)", x.pays(2, 3), 1);
    due(23, "only what is more: busiest(1, 0)", x.busiest(1, 0), 4);
    due(23, "only what is more: busiest(1, 1)", x.busiest(1, 1), 1);
  }

  private static void best() {
    GhostPike x = Texts.read(PAIR + "road a b 1 gate;road a b 4;ghost g a b 0 50 1;");
    due(24, "best(1, 0)", x.best(1, 0), 3);
    due(24, "best(1, 1)", x.best(1, 1), 3);
    due(24, "best(30, 1)", x.best(30, 1), 90);
    due(24, "best(0, 0)", x.best(0, 0), NONE);
    due(24, "best(31, 0)", x.best(31, 0), NONE);
    due(24, "best(1, 2)", x.best(1, 2), NONE);
    due(24, "best(1, -1)", x.best(1, -1), NONE);
    due(24, "nothing happens", x.count(4), 1);
    x.nights(4);
    due(24, "only what is more", x.best(1, 1), 3);
    // of alike ones the least; up to 9
    x = Texts.read(PAIR + "road a b 1 gate;ghost g a b 0 4 1;");
    due(24, "best(2, 0) by what he carries", x.best(2, 0), 4);
    due(24, "best(2, 1) by what he carries", x.best(2, 1), 8);
    x = Texts.read(PAIR + "road a b 1 gate;ghost g a b 0 99 1;");
    due(24, "best(1, 0) to the top", x.best(1, 0), 9);
    x = Texts.read(PAIR + "road a b 1;ghost g a b 0 99 1;");
    x.rate(5);
    due(24, "best(1, 0) without gates", x.best(1, 0), 0);
    due(24, "best(1, 1) without gates", x.best(1, 1), 0);
    due(24, "the rate stays", x.count(4), 5);
  }

  private static void keepers() {
    // Two ROADS side by side, alike: who is the cheaper has all, of alike ones the even one.
    GhostPike x = Texts.read(PAIR + "road a b 1 gate;road a b 1 gate;ghost g a b 0 99 1;");
    int[] rests = {0, 10, 11, NONE};
    due(25, "keepers(1, -1)", x.keepers(1, -1), 3);
    for (int i = 0; i < 4; i++) due(25, "keepers(1, " + i + ")", x.keepers(1, i), rests[i]);
    for (int[] bad : new int[][] {{0, -1}, {10, -1}, {1, -2}, {1, Integer.MIN_VALUE}, {1, Integer.MAX_VALUE}, {-1, 0}})
      due(25, "keepers(" + bad[0] + ", " + bad[1] + ")", x.keepers(bad[0], bad[1]), NONE);
    due(25, "nothing happens", x.count(4), 1);
    // Each has his own who must go there.
    x = Texts.read("place a;place b;place c;place d;road a b 1 gate;road c d 1 gate;ghost g a b 0 99 1;ghost h c d 0 99 1;");
    due(25, "keepers(9, -1)", x.keepers(9, -1), 1);
    due(25, "keepers(9, 0)", x.keepers(9, 0), 33);
    // Only the other one has a GATE: the even one's RATE is nothing to anybody.
    x = Texts.read(PAIR + "road b a 9;road a b 1 gate;ghost g a b 0 2 1;");
    due(25, "keepers(2, -1)", x.keepers(2, -1), 8);
    due(25, "keepers(2, 0)", x.keepers(2, 0), 2);
    due(25, "keepers(2, 1)", x.keepers(2, 1), 3);
    due(25, "keepers(2, 7)", x.keepers(2, 7), 33);
    // The less the RATE, the more is owed: nobody rests above 0.
    GhostPike y = Texts.read("place a;place b;place c;place d;road a b 1 gate;road c d 1 gate;ghost g a b 0 99 1;ghost h c d 0 99 1;"
        + "owes = 3 - rate;");
    due(25, "keepers(1, -1) the other way round", y.keepers(1, -1), 1);
    due(25, "keepers(1, 0) the other way round", y.keepers(1, 0), 0);
    // What was taken ahead does not count.
    x.nights(5);
    due(25, "keepers(2, -1) behind", x.keepers(2, -1), 8);
  }

  private static void breaksFirstCutOff() {
    GhostPike x = Texts.read(ONE_ROAD + "bears = 3;");
    due(26, "breaks(0)", x.breaks(0), 3);
    due(26, "breaks(1)", x.breaks(1), NONE);
    due(26, "breaks(-1)", x.breaks(-1), NONE);
    due(27, "first(0)", x.first(0), 0);
    due(27, "first(1)", x.first(1), 3);
    due(27, "first(2)", x.first(2), NONE);
    due(27, "first(-1)", x.first(-1), NONE);
    due(29, "cutOff(0)", x.cutOff(0), 3);
    due(29, "cutOff(1)", x.cutOff(1), NONE);
    due(29, "cutOff(-1)", x.cutOff(-1), NONE);
    due(26, "nothing happens", x.count(3), 0);
    x.nights(1);
    due(26, "breaks(0) a night on", x.breaks(0), 2);
    x.nights(2);
    due(26, "breaks(0) broken", x.breaks(0), 0);
    due(27, "first(0) broken", x.first(0), -2);
    due(27, "first(1) broken", x.first(1), -2);
    due(29, "cutOff(0) broken", x.cutOff(0), 0);
    x = Texts.read(ONE_ROAD + "bears = 200;");
    due(26, "breaks(0) of 200", x.breaks(0), 200);
    due(27, "first(1) of 200", x.first(1), 200);
    due(29, "cutOff(0) of 200", x.cutOff(0), 200);
    x = Texts.read(ONE_ROAD + "bears = 201;");
    due(26, "breaks(0) of 201", x.breaks(0), -2);
    due(27, "first(0) of 201", x.first(0), -2);
    due(29, "cutOff(0) of 201", x.cutOff(0), -2);
    x = Texts.read(ONE_ROAD + "bears = 5 - night;");
    due(26, "breaks(0) by the night", x.breaks(0), 3);
    // Which breaks first; those BROKEN now are none of them.
    String two = "place a;place b;place c;place d;road a b 1;road c d 1;ghost g a b 0 0 2;ghost h c d 0 0 1;";
    x = Texts.read(two + "bears = 4;");
    due(26, "breaks(0)", x.breaks(0), 7);
    due(26, "breaks(1)", x.breaks(1), 4);
    due(27, "first(0)", x.first(0), 1);
    due(27, "first(1)", x.first(1), 4);
    x.nights(4);
    due(27, "first(0) behind", x.first(0), 0);
    due(27, "first(1) behind", x.first(1), 3);
    due(29, "cutOff(0) behind", x.cutOff(0), 3);
    x = Texts.read(two + "bears = 1;");
    due(27, "first(0) of one night", x.first(0), 0);
    due(27, "first(1) of one night", x.first(1), 1);
    // For the first time: later it may be whole again.
    x = Texts.read(ONE_ROAD + "bears = if night < 2 then 9 else if night < 3 then 0 else 99;");
    due(26, "breaks(0) and is whole again", x.breaks(0), 2);
    due(29, "cutOff(0) and goes again", x.cutOff(0), 2);
    x.nights(3);
    due(26, "breaks(0) behind", x.breaks(0), 97);
    x = Texts.read("place a;place b;place c;road a b 1;ghost g a c 0 0 1;");
    due(29, "cutOff(0) who never had a way", x.cutOff(0), 0);
    due(27, "first(0) of nobody", x.first(0), -2);
    due(27, "first(0) of nothing", new GhostPike().first(0), -2);
  }

  private static void meets() {
    GhostPike x = Texts.read(PAIR + "ghost g a b 0 0 8;ghost h a b 0 0 9;ghost i a b 0 0 1;");
    due(28, "meets(0, 1)", x.meets(0, 1), 0);
    due(28, "meets(0, 0)", x.meets(0, 0), NONE);
    due(28, "meets(0, 3)", x.meets(0, 3), NONE);
    due(28, "meets(-1, 0)", x.meets(-1, 0), NONE);
    due(28, "meets(-1, -1)", x.meets(-1, -1), NONE);
    x.nights(1);
    due(28, "meets(0, 1) from 1", x.meets(0, 1), 72);
    due(28, "meets(1, 0) from 1", x.meets(1, 0), 72);
    due(28, "meets(0, 2) from 1", x.meets(0, 2), 8);
    x.nights(30);
    x.nights(30);
    x.nights(11);
    due(28, "meets(0, 1) from 72", x.meets(0, 1), 72);
    x.nights(1);
    due(28, "meets(0, 1) from 73", x.meets(0, 1), -2);
    due(28, "meets(1, 2) from 73", x.meets(1, 2), 81);
    x.nights(26);
    due(28, "meets(1, 2) from 99", x.meets(1, 2), 99);
    x.nights(1);
    due(28, "meets(1, 2) from 100", x.meets(1, 2), -2);
    x = Texts.read(PAIR + "ghost g a b 0 0 4;ghost h a b 0 0 5;");
    x.nights(30);
    x.nights(30);
    due(28, "meets(0, 1) from 60", x.meets(0, 1), 60);
    x.nights(30);
    due(28, "meets(0, 1) in night 100, from 90", x.meets(0, 1), -2);
  }

  private static void year() {
    // One pays 1 in each night of FOG: of the SEEDS 9998 .. 10001 there are 4, 4, 3, 8 in the first ten nights.
    GhostPike x = Texts.read(PAIR + "road a b 1 gate;ghost g a b 0 9 1;owes = foggy;fog 50;seed 9998;");
    due(30, "year(10, 1)", x.year(10, 1), 4);
    due(30, "year(10, 2)", x.year(10, 2), 8);
    due(30, "year(10, 3)", x.year(10, 3), 11);
    due(30, "year(10, 4)", x.year(10, 4), 19);
    due(30, "year(0, 20)", x.year(0, 20), 0);
    for (int[] bad : new int[][] {{-1, 1}, {61, 1}, {1, 0}, {1, 21}, {1, -1}})
      due(30, "year(" + bad[0] + ", " + bad[1] + ")", x.year(bad[0], bad[1]), NONE);
    due(30, "nothing happens", x.count(3), 0);
    // from now on
    x = Texts.read(PAIR + "road a b 1 gate;ghost g a b 0 9 1;owes = foggy;fog 50;");
    x.nights(2);
    due(30, "year(10, 1) from night 2", x.year(10, 1), 3);
    x = Texts.read(PAIR + "road a b 1 gate;ghost g a b 0 9 1;owes = 2;fog 50;bears = 40;");
    due(30, "year(60, 20)", x.year(60, 20), 1600);
    x.gate(0, false);
    due(30, "year(60, 20) without a gate", x.year(60, 20), 0);
  }

  private static void sheet() {
    int[][] lamps = {{10, 20, 1, 37, 4, 13}, {0, 0, 0, 1, 0, 1}, {100, 100, 1, 1, 0, 1}, {50, 50, 1, 2, 1, 2},
        {0, 100, 0, 1, 0, 1}, {100, 0, 0, 1, 1, 1}, {1, 1, 1, 9802, 1, 2}, {99, 1, 1, 2, 9801, 9802}, {30, 0, 0, 1, 1, 1}};
    for (int[] l : lamps) {
      GhostPike x = Texts.read("lamp " + l[0] + " " + l[1] + ";");
      due(31, "lamp " + l[0] + " " + l[1] + " dead above", x.sheet(true, false), l[2]);
      due(31, "lamp " + l[0] + " " + l[1] + " dead below", x.sheet(true, true), l[3]);
      due(31, "lamp " + l[0] + " " + l[1] + " sheet above", x.sheet(false, false), l[4]);
      due(31, "lamp " + l[0] + " " + l[1] + " sheet below", x.sheet(false, true), l[5]);
    }
  }

  private static void dreams() {
    String text = "place a;place b;place c;road a b 1 field;road b c 1 field;road a b 9;"
        + "ghost g a b 0 0 1;ghost h b c 0 0 2;ghost i a b 0 0 3;";
    GhostPike x = Texts.read(text);
    due(34, "who(0, -1)", x.who(0, -1), 8);
    due(34, "who(0, 7)", x.who(0, 7), 7);
    due(34, "who(0, 8)", x.who(0, 8), NONE);
    due(34, "who(1, -1)", x.who(1, -1), NONE);
    due(34, "who(-1, -1)", x.who(-1, -1), NONE);
    due(34, "who(0, -2)", x.who(0, -2), NONE);
    due(35, "watch(0, 0)", x.watch(0, 0), 1);
    due(35, "watch(0, 1)", x.watch(0, 1), 0);
    due(35, "of alike ones the first: watch(0, 2)", x.watch(0, 2), 0);
    due(35, "watch(0, -1)", x.watch(0, -1), NONE);
    due(35, "watch(0, 31)", x.watch(0, 31), NONE);
    due(35, "watch(1, 0)", x.watch(1, 0), NONE);
    due(35, "watch(-1, 0)", x.watch(-1, 0), NONE);
    due(32, "tell(0, 1, true)", x.tell(0, 1, true), 0);
    due(32, "tell(2, 1, true), no field", x.tell(2, 1, true), NONE);
    due(32, "tell(3, 1, true)", x.tell(3, 1, true), NONE);
    due(32, "tell(-1, 1, true)", x.tell(-1, 1, true), NONE);
    due(32, "tell(0, -1, true)", x.tell(0, -1, true), NONE);
    due(32, "tell(0, 31, true)", x.tell(0, 31, true), NONE);
    due(32, "tell(1, 0, false)", x.tell(1, 0, false), 1);
    due(38, "count(10)", x.count(10), 2);
    int[] first = {1, 3, 5, 7, NONE};
    due(34, "who(1, -1)", x.who(1, -1), 4);
    for (int i = 0; i < 5; i++) due(34, "who(1, " + i + ")", x.who(1, i), first[i]);
    due(34, "who(2, -1)", x.who(2, -1), 2);
    due(34, "who(2, 0)", x.who(2, 0), 1);
    due(34, "who(2, 1)", x.who(2, 1), 5);
    due(34, "who(2, 2)", x.who(2, 2), NONE);
    due(34, "who(3, -1)", x.who(3, -1), NONE);
    // It is from the text's begin, nothing by hand.
    x.nights(7);
    x.gate(0, true);
    x.rate(9);
    due(34, "who(2, -1) behind", x.who(2, -1), 2);
    due(35, "watch(1, 4) behind", x.watch(1, 4), 1);
    due(32, "a dream that cannot be", x.tell(1, 1, true), 2);
    due(34, "who(3, -1)", x.who(3, -1), 0);
    due(34, "who(3, 0)", x.who(3, 0), NONE);
    due(35, "watch(3, 0)", x.watch(3, 0), 0);
    due(15, "undo() leaves it", x.undo(), true);
    due(38, "count(10)", x.count(10), 3);
    due(33, "forget()", x.forget(), 3);
    due(33, "forget() again", x.forget(), 0);
    due(34, "who(0, -1)", x.who(0, -1), 8);
    for (int i = 0; i < 20; i++) due(32, "tell " + i, x.tell(0, i, true), i);
    due(32, "tell 20", x.tell(0, 1, true), NONE);
    due(34, "who(20, -1)", x.who(20, -1), 4);
    due(33, "forget()", x.forget(), 20);
    // The fewest sets left at worst: three of four show 0, two show 1; then three show 0 and one shows 1, which is alike.
    x = Texts.read("place a;place b;place c;road a b 1 field;road b c 1 field;ghost g a c 0 0 1;ghost h a b 0 0 1;");
    due(35, "watch(0, 0) by two of four", x.watch(0, 0), 1);
    x = Texts.read(PAIR + "road a b 1 field;road a b 2 field;ghost g a b 0 0 1;ghost h a b 0 0 1;fears = 0;bears = 1;");
    due(35, "watch(0, 0) by one of four", x.watch(0, 0), 0);
    due(35, "watch(0, 1): the one ROAD is gone, he goes the other", x.watch(0, 1), 1);
    x.tell(0, 1, false);
    due(34, "who(1, -1) by WEAR of the night ahead", x.who(1, -1), 4);
    x.tell(1, 1, true);
    due(34, "who(2, -1)", x.who(2, -1), 2);
    due(34, "who(2, 0)", x.who(2, 0), 1);
    // Another text, other dreams.
    Texts.put(x, PAIR + "road a b 1 field;road a b 2 field;ghost g a b 0 0 1;ghost h a b 0 0 1;fears = 0;");
    x.read();
    x.tell(0, 1, false);
    due(34, "who(1, -1) of another text", x.who(1, -1), 1);
    due(34, "who(1, 0) of another text", x.who(1, 0), 0);
    // Far nights, and WEAR of those who there are: who goes alone does not break the ROAD.
    x = Texts.read(PAIR + "road a b 1 field;ghost g a b 0 0 1;ghost h a b 0 0 1;bears = 31;");
    x.tell(0, 15, true);
    x.tell(0, 16, true);
    x.tell(0, 30, true);
    due(34, "who(1, -1)", x.who(1, -1), 3);
    due(34, "who(2, -1)", x.who(2, -1), 2);
    due(34, "who(2, 1)", x.who(2, 1), 2);
    due(34, "who(3, -1)", x.who(3, -1), 2);
    due(35, "watch(0, 30)", x.watch(0, 30), 0);
    x = Texts.read(ONE_ROAD);
    due(35, "watch(0, 0) without fields", x.watch(0, 0), -2);
    due(35, "watch(0, 31) without fields", x.watch(0, 31), NONE);
    // GATES and RATE of the text count: by the GATE's price he goes over the field.
    x = Texts.read(PAIR + "road a b 1 gate;road a b 2 field;ghost g a b 0 0 1;owes = rate * 9;fears = 3;");
    x.rate(0);
    x.tell(1, 0, true);
    due(34, "who(1, 0)", x.who(1, 0), 1);
  }

  private static void slots() {
    GhostPike x = Texts.read(LINE);
    due(37, "restore(0) of nothing", x.restore(0), false);
    due(36, "hold(-1)", x.hold(-1), false);
    due(36, "hold(3)", x.hold(3), false);
    x.nights(3);
    due(36, "hold(1)", x.hold(1), true);
    due(38, "count(11)", x.count(11), 1);
    x.gate(4, true);
    x.rate(8);
    x.nights(4);
    x.tell(2, 0, true);
    x.feed(0, 0, 0, 0, 0);
    due(36, "hold(2)", x.hold(2), true);
    due(38, "count(9)", x.count(9), 4);
    due(37, "restore(1)", x.restore(1), true);
    int[] counts = {4, 5, 3, 3, 1, 1, 1, 0, 20, 0, 1, 2, 0};
    for (int i = 0; i < counts.length; i++) due(37, "count(" + i + ")", x.count(i), counts[i]);
    due(37, "road(4, 5)", x.road(4, 5), 3);
    due(37, "ghost(0, 5)", x.ghost(0, 5), 3);
    due(37, "road(2, 7)", x.road(2, 7), 3);
    due(37, "undo()", x.undo(), false);
    due(37, "nights(1)", x.nights(1), 4);
    due(37, "restore(1) again", x.restore(1), true);
    due(37, "count(3)", x.count(3), 3);
    due(37, "undo() again", x.undo(), false);
    due(37, "restore(2)", x.restore(2), true);
    due(37, "count(3) of the other", x.count(3), 7);
    due(37, "count(4) of the other", x.count(4), 8);
    due(37, "count(6) of the other", x.count(6), 17);
    due(37, "restore(0)", x.restore(0), false);
    due(37, "restore(3)", x.restore(3), false);
    due(37, "restore(-1)", x.restore(-1), false);
    due(37, "count(3) as it was", x.count(3), 7);
    x.rate(2);
    due(37, "restore(0) undoes nothing", x.restore(0), false);
    due(38, "count(9)", x.count(9), 1);
    due(36, "hold(2) over it", x.hold(2), true);
    due(38, "count(11)", x.count(11), 2);
    x.rate(3);
    due(37, "restore(2)", x.restore(2), true);
    due(38, "count(4)", x.count(4), 2);
  }

  /** Numbers far from all that is: nothing is thrown, nothing happens. */
  private static void farOff() {
    for (GhostPike x : new GhostPike[] {new GhostPike(), Texts.read(LINE)}) {
      for (int far : new int[] {Integer.MIN_VALUE, Integer.MIN_VALUE + 1, -1000, -3, 1000, 1 << 20, Integer.MAX_VALUE - 1, Integer.MAX_VALUE}) {
        int[] got = {x.back(far), x.road(far, 0), x.road(0, far), x.ghost(far, 0), x.ghost(0, far), x.cost(far, 0), x.cost(0, far),
            x.way(far, 0), x.way(0, far), x.wayAt(far, 0), x.wayAt(0, -Math.abs(far / 2)), x.mend(far), x.nights(far), x.tonight(far),
            x.put(far, 1, 0), x.put(1, far, 0), x.put(1, 1, far), x.stop(far), x.saves(far), x.pays(far, 1), x.pays(0, far),
            x.seen(far, 1), x.seen(0, far), x.busiest(far, 0), x.busiest(1, far), x.best(far, 0), x.best(1, far),
            x.keepers(far, -1), x.keepers(1, far), x.breaks(far), x.first(far), x.meets(far, 0), x.meets(0, far), x.cutOff(far),
            x.year(far, 1), x.year(1, far), x.tell(far, 0, true), x.tell(0, far, true), x.who(far, -1), x.who(0, far),
            x.watch(far, 0), x.watch(0, far), x.count(far)};
        for (int i = 0; i < got.length; i++) due(38, "call " + i + " with " + far, got[i], NONE);
        due(11, "gate(" + far + ", true)", x.gate(far, true), false);
        due(12, "rate(" + far + ")", x.rate(far), false);
        due(36, "hold(" + far + ")", x.hold(far), false);
        due(37, "restore(" + far + ")", x.restore(far), false);
      }
      due(38, "count(9)", x.count(9), 0);
      due(38, "count(11)", x.count(11), 0);
    }
  }

  private static void counts() {
    GhostPike x = Texts.read(LINE + "bears = if which < 2 then 0 else 9;fog 100;");
    int[] counts = {4, 5, 3, 0, 1, 0, 1, 1, 0, 0, 0, 0, 3};
    for (int i = 0; i < counts.length; i++) due(38, "count(" + i + ")", x.count(i), counts[i]);
    for (int bad : new int[] {-1, 13, Integer.MAX_VALUE, Integer.MIN_VALUE}) due(38, "count(" + bad + ")", x.count(bad), NONE);
    x.nights(9);
    due(38, "count(12) behind", x.count(12) & 16, 16);
  }
}
