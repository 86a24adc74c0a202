/** Promises 6 to 10 and 14: edges of LAWS, of FOG, of COST and WAYS, of a NIGHT. */
public final class LawEdgesTest {
  private static final int NONE = -1;
  private static final Edges t = new Edges();
  private static final String PAIR = Edges.PAIR;
  /** The least and the greatest int, as an E. */
  private static final String LEAST = "(4096 * 4096 * 128)";
  private static final String GREATEST = "(4096 * 4096 * 128 - 1)";

  public static void main(String[] args) {
    whichIf();
    less();
    wraps();
    divides();
    byNought();
    held();
    vars();
    bears();
    broken();
    fog();
    costs();
    ways();
    alike();
    wayAt();
    night();
    pays();
    roads();
    ghosts();
    t.end(6, 10);
  }

  /** What a LAW says of a GATE and of a FIELD, by itself; the ROAD has 1 HOUR, number 1, the GHOST 3, 40, 2. */
  private static void says(String law, int value) {
    String ahead = PAIR + "road b a 9;road a b 1 gate;road a b 1 field;ghost f a b 9 9 9;ghost g a b 3 40 2;";
    t.due("owes " + law, Texts.read(ahead + "owes " + law + ";").cost(1, 1) - 1, value);
    t.due("fears " + law, Texts.read(ahead + "fears " + law + ";").cost(1, 2) - 1, value);
  }

  private static void whichIf() {
    t.edge(8, "the E of the first if that holds, else the last one");
    for (int holds = 1; holds <= 5; holds++) {
      StringBuilder law = new StringBuilder("= ");
      for (int i = 1; i <= 4; i++) law.append("if ").append(i == holds ? 1 : 2).append(" < 2 then ").append(10 * i).append(" else ");
      says(law + "50", 10 * holds);
    }
    t.edge(8, "the first one, though later ones hold, too");
    for (int holds = 1; holds <= 4; holds++) {
      StringBuilder law = new StringBuilder("= ");
      for (int i = 1; i <= 4; i++) law.append("if ").append(i >= holds ? 1 : 2).append(" < 2 then ").append(10 * i).append(" else ");
      says(law + "50", 10 * holds);
    }
    t.edge(8, "no if at all");
    says("= 7", 7);
  }

  private static void less() {
    t.edge(8, "one less than the other: alike is not less");
    says("= if 2 < 2 then 1 else 2", 2);
    says("= if 1 < 2 then 1 else 2", 1);
    says("= if 3 < 2 then 1 else 2", 2);
    says("= if 0 < 0 then 1 else 2", 2);
    t.edge(8, "one less than the other: below 0");
    says("= if 0 - 1 < 0 then 1 else 2", 1);
    says("= if 0 < 0 - 1 then 1 else 2", 2);
    says("= if 0 - 2 < 0 - 1 then 1 else 2", 1);
    says("= if 0 - 1 < 0 - 1 then 1 else 2", 2);
    t.edge(8, "one less than the other: the least and the greatest int");
    says("= if " + LEAST + " < " + GREATEST + " then 1 else 2", 1);
    says("= if " + GREATEST + " < " + LEAST + " then 1 else 2", 2);
    says("= if " + LEAST + " < " + LEAST + " then 1 else 2", 2);
    says("= if " + GREATEST + " < " + GREATEST + " then 1 else 2", 2);
  }

  private static void wraps() {
    t.edge(8, "ints of 32 bits that wrap: +");
    says("= if " + GREATEST + " + 1 < 0 then 1 else 2", 1);
    says("= " + GREATEST + " + " + GREATEST + " + 9", 7);
    says("= " + LEAST + " + " + LEAST + " + 9", 9);
    t.edge(8, "ints of 32 bits that wrap: -");
    says("= if 0 < " + LEAST + " - 1 then 1 else 2", 1);
    says("= 5 - " + LEAST + " - " + LEAST, 5);
    says("= if 0 - " + LEAST + " < 0 then 1 else 2", 1);
    t.edge(8, "ints of 32 bits that wrap: *");
    says("= 256 * 256 * 256 * 256 + 5", 5);
    says("= 4096 * 4096 * 256 + 6", 6);
    says("= if 4096 * 4096 * 128 < 0 then 1 else 2", 1);
    // 9999 * 9999 * 9999 = 999700029999 = 233 * 2^32 - 1027349969
    says("= 9999 * 9999 * 9999 / 9999 / 9999 + 50", 40);
    says("= " + GREATEST + " * " + GREATEST, 1);
    says("= " + LEAST + " * 3 - " + LEAST + " + 4", 4);
  }

  private static void divides() {
    t.edge(8, "/ rounded towards 0");
    says("= 7 / 2", 3);
    says("= 1 / 2", 0);
    says("= 10 + (0 - 7) / 2", 7);
    says("= 10 + 7 / (0 - 2)", 7);
    says("= 10 + (0 - 7) / (0 - 2)", 13);
    says("= 10 + (0 - 1) / 2", 10);
    says("= 10 + 1 / (0 - 2)", 10);
    says("= 0 / 5", 0);
    says("= 5 / 5", 1);
    says("= 4 / 5", 0);
    t.edge(8, "/ of the least int by -1 wraps");
    says("= if " + LEAST + " / (0 - 1) < 0 then 1 else 2", 1);
    says("= " + LEAST + " / (0 - 1) - " + LEAST + " + 3", 3);
    says("= " + LEAST + " / " + LEAST + " + 3", 4);
    says("= " + GREATEST + " / " + LEAST + " + 3", 3);
    t.edge(8, "works of one rank from the left, * and / ahead of + and -");
    says("= 9 - 4 - 3", 2);
    says("= 24 / 4 / 3", 2);
    says("= 24 / 4 * 3", 18);
    says("= 5 * 7 / 2", 17);
    says("= 7 / 2 * 5", 15);
    says("= 20 - 2 * 3 + 8 / 4", 16);
    says("= (20 - 2) * 3 / (8 - 4)", 13);
    says("= 9 - (4 - 3)", 8);
    says("= 24 / (4 / 3)", 24);
  }

  private static void byNought() {
    t.edge(8, "a LAW in which something that is looked at is divided by 0 is 0");
    says("= 5 / 0", 0);
    says("= 0 / 0", 0);
    says("= 7 + 5 / 0", 0);
    says("= 7 + 5 / (3 - 3)", 0);
    says("= 7 + 0 * (5 / 0)", 0);
    says("= 7 + 1 / 0 * 0", 0);
    says("= 7 + 1 / (1 / 2)", 0);
    says("= 7 + 1 / wear", 0);
    says("= 7 + 1 / (256 * 256 * 256 * 256)", 0);
    t.edge(8, "looked at: either side of an if, and its E");
    says("= if 1 / 0 < 1 then 7 else 7", 0);
    says("= if 1 < 1 / 0 then 7 else 7", 0);
    says("= if 1 < 2 then 1 / 0 else 7", 0);
    says("= if 2 < 2 then 7 else 1 / 0", 0);
    says("= if 2 < 2 then 7 else if 1 / 0 < 1 then 7 else 7", 0);
    says("= if 2 < 2 then 7 else if 2 < 2 then 7 else if 2 < 2 then 7 else if 2 < 0 / 0 then 7 else 7", 0);
    t.edge(8, "not looked at: what stands behind the if that holds, the E of one that does not");
    says("= if 1 < 2 then 7 else 1 / 0", 7);
    says("= if 2 < 2 then 1 / 0 else 7", 7);
    says("= if 1 < 2 then 7 else if 1 / 0 < 1 then 8 else 9", 7);
    says("= if 2 < 2 then 1 / 0 else if 1 < 2 then 7 else 1 / 0", 7);
    t.edge(8, "divided by what is not 0: below 0, too");
    says("= 7 + 1 / (0 - 1)", 6);
  }

  private static void held() {
    t.edge(8, "OWES, FEARS held to 0 .. 99");
    says("= 0", 0);
    says("= 0 - 1", 0);
    says("= 1", 1);
    says("= 98", 98);
    says("= 99", 99);
    says("= 100", 99);
    says("= 9999", 99);
    says("= " + LEAST, 0);
    says("= " + GREATEST, 99);
    t.edge(8, "held is what the LAW says, not its parts");
    says("= 500 - 450", 50);
    says("= 0 - 450 + 500", 50);
    t.edge(6, "BEARS held to 0 .. 999");
    t.due("bears = 0", Texts.read(PAIR + "road a b 1;bears = 0;").road(0, 6), 1);
    t.due("bears = 0 - 1", Texts.read(PAIR + "road a b 1;bears = 0 - 1;").road(0, 6), 1);
    t.due("bears = 1", Texts.read(PAIR + "road a b 1;bears = 1;").road(0, 6), 0);
    t.due("bears = the least", Texts.read(PAIR + "road a b 1;bears = " + LEAST + ";").road(0, 6), 1);
    for (String law : new String[] {"999", "1000", "9999", GREATEST}) {
      // Seven GHOSTS a night: 994 by 142 nights, then one more for each of five.
      GhostPike x = Texts.read(PAIR + "road a b 1;" + Edges.letters("ghost g# a b 0 0 1;", 7) + "bears = " + law + ";");
      for (int i = 0; i < 4; i++) x.nights(30);
      x.nights(22);
      t.due("wear by 142 nights", x.road(0, 5), 994);
      t.due("not yet of " + law, x.road(0, 6), 0);
      x.nights(1);
      t.due("wear is 999 and no more by " + law, x.road(0, 5), 999);
      t.due("broken by " + law, x.road(0, 6), 1);
      for (int g = 0; g < 7; g++) t.due("stayed " + g, x.ghost(g, 6), g < 5 ? 0 : 1);
    }
    GhostPike y = Texts.read(PAIR + "road a b 1;ghost g a b 0 0 1;bears = 998;");
    for (int i = 0; i < 33; i++) y.nights(30);
    y.nights(7);
    t.due("bears = 998 at 997", y.road(0, 6), 0);
    y.nights(1);
    t.due("bears = 998 at 998", y.road(0, 6), 1);
  }

  private static void vars() {
    t.edge(8, "VARS at their ends: the GHOST's kind 0, 9, carries 0, 99, every 1, 9");
    String low = PAIR + "road a b 1 gate;road a b 9 field;ghost g a b 0 0 1;ghost h b a 9 99 9;";
    String[] vars = {"kind", "carries", "every"};
    int[][] ends = {{0, 9}, {0, 99}, {1, 9}};
    for (int i = 0; i < 3; i++) {
      GhostPike x = Texts.read(low + "owes = " + vars[i] + ";fears = " + vars[i] + ";");
      t.due(vars[i] + " least", x.cost(0, 0), 1 + ends[i][0]);
      t.due(vars[i] + " most", x.cost(1, 0), 1 + ends[i][1]);
      t.due(vars[i] + " least of a field", x.cost(0, 1), 9 + ends[i][0]);
      t.due(vars[i] + " most of a field", x.cost(1, 1), 9 + ends[i][1]);
    }
    t.edge(8, "VARS at their ends: hours 1, 9 of the ROAD");
    GhostPike x = Texts.read(low + "owes = hours * 10;fears = hours * 10;");
    t.due("hours 1", x.cost(0, 0), 11);
    t.due("hours 9", x.cost(0, 1), 99);
    t.edge(8, "VARS at their ends: which 0, 11, its number");
    x = Texts.read(PAIR + Edges.often("road a b 1 gate;", 12) + "ghost g a b 0 0 1;owes = which * 9;");
    for (int r = 0; r < 12; r++) t.due("which " + r, x.cost(0, r), 1 + Math.min(99, 9 * r));
    t.edge(8, "VARS at their ends: rate 0, 9, the RATE");
    x = Texts.read(low + "owes = rate * 11;fears = rate * 11;");
    t.due("rate 1 at first", x.cost(0, 0), 12);
    x.rate(0);
    t.due("rate 0", x.cost(0, 0), 1);
    t.due("rate 0 of a field", x.cost(0, 1), 9);
    x.rate(9);
    t.due("rate 9", x.cost(0, 0), 100);
    t.due("rate 9 of a field", x.cost(0, 1), 108);
    t.edge(8, "VARS: foggy is 1 in a night of FOG, else 0");
    t.due("foggy 0", Texts.read(low + "owes = foggy * 7;fog 0;").cost(0, 0), 1);
    t.due("foggy 1", Texts.read(low + "owes = foggy * 7;fog 100;").cost(0, 0), 8);
    t.due("foggy 1 of a field", Texts.read(low + "fears = foggy * 7;fog 100;").cost(0, 1), 16);
    t.edge(8, "VARS: wear of the ROAD, from 0 on, night from 0 on");
    x = Texts.read(PAIR + "road a b 1 gate;road a b 1 field;ghost g a b 0 0 2;owes = wear;fears = 20 + night;");
    int[] wear = {0, 1, 1, 2, 2, 3};
    for (int n = 0; n < 6; n++) {
      t.due("wear in night " + n, x.cost(0, 0), 1 + wear[n]);
      t.due("night " + n, x.cost(0, 1), 21 + n);
      x.nights(1);
    }
    t.edge(8, "VARS: a night, a WEAR far on");
    x = Texts.read(PAIR + "road a b 1 field;ghost g a b 0 0 1;bears = 999;fears = night * 10 + wear - 3300;");
    for (int i = 0; i < 10; i++) x.nights(30);
    t.due("night 300, wear 300", x.cost(0, 0), 1);
    x = Texts.read(PAIR + "road a b 1 field;ghost g a b 0 0 1;bears = 999;fears = night * 10 + wear - 3250;");
    for (int i = 0; i < 10; i++) x.nights(30);
    t.due("night 300, wear 300 less", x.cost(0, 0), 51);
  }

  private static void bears() {
    t.edge(6, "a VAR not told for a LAW is 0 in it: kind, carries, every, foggy, rate, wear in BEARS");
    String ahead = PAIR + "road a b 3;road a b 2;ghost f a b 9 99 1;ghost g a b 5 50 1;fog 100;";
    for (String v : new String[] {"kind", "carries", "every", "foggy", "rate", "wear"}) {
      GhostPike x = Texts.read(ahead + "bears = 4 + 50 * " + v + ";");
      t.due("breaks(1) by " + v, x.breaks(1), 2);
      t.due("bears = 9 / " + v, Texts.read(ahead + "bears = 9 + 9 / " + v + ";").count(12), 3);
      t.due("bears = if 0 < " + v, Texts.read(ahead + "bears = if 0 < " + v + " then 0 else 4;").count(12), 0);
    }
    t.edge(6, "BEARS (hours, which, night)");
    t.due("hours", Texts.read(ahead + "bears = hours - 2;").count(12), 2);
    t.due("which", Texts.read(ahead + "bears = which;").count(12), 1);
    GhostPike x = Texts.read(PAIR + "road a b 3;road a b 2;bears = 2 - night;");
    t.due("night 0", x.count(12), 0);
    x.nights(1);
    t.due("night 1", x.count(12), 0);
    x.nights(1);
    t.due("night 2", x.count(12), 3);
    t.edge(6, "BEARS is a LAW without a GHOST, too");
    t.due("no ghost at all", Texts.read(PAIR + "road a b 3;bears = 1 + kind + carries + every;").road(0, 6), 0);
  }

  private static void broken() {
    t.edge(6, "BROKEN if its WEAR is that or more: less, that");
    GhostPike x = Texts.read(PAIR + "road a b 1;ghost g a b 0 0 1;bears = 3;");
    int[] due = {0, 0, 0, 1, 1};
    for (int n = 0; n < 5; n++) {
      t.due("road(0, 6) in night " + n, x.road(0, 6), due[n]);
      x.nights(1);
    }
    t.due("wear goes no further", x.road(0, 5), 3);
    t.edge(6, "BROKEN if its WEAR is that or more: more, as BEARS goes down by the night");
    x = Texts.read(PAIR + "road a b 1;ghost g a b 0 0 1;bears = if night < 5 then 9 else 2;");
    x.nights(4);
    t.due("whole in night 4", x.road(0, 6), 0);
    x.nights(1);
    t.due("wear", x.road(0, 5), 5);
    t.due("broken in night 5", x.road(0, 6), 1);
    t.edge(6, "whole again, as BEARS goes up by the night");
    x = Texts.read(PAIR + "road a b 1;ghost g a b 0 0 1;bears = if night < 4 then 2 else 4;");
    int[] states = {0, 0, 1, 1, 0, 0, 1};
    for (int n = 0; n < 7; n++) {
      t.due("road(0, 6) in night " + n, x.road(0, 6), states[n]);
      x.nights(1);
    }
    t.edge(6, "no WEAR, and it bears nothing: BROKEN");
    x = Texts.read(PAIR + "road a b 1;ghost g a b 0 0 1;bears = 0;");
    t.due("road(0, 6)", x.road(0, 6), 1);
    t.due("road(0, 5)", x.road(0, 5), 0);
    t.due("way(0, 0)", x.way(0, 0), -2);
    t.edge(6, "MENDED: it is BROKEN no more, or still, if it bears nothing");
    x = Texts.read(PAIR + "road a b 1 gate;ghost g a b 0 9 1;owes = 1;bears = if night < 3 then 3 else if night < 4 then 3 else 0;");
    x.nights(3);
    t.due("road(0, 6)", x.road(0, 6), 1);
    t.due("mend(0)", x.mend(0), 0);
    t.due("road(0, 6) mended", x.road(0, 6), 0);
    x.nights(1);
    t.due("road(0, 6) in night 4", x.road(0, 6), 1);
    t.due("mend(0)", x.mend(0), 0);
    t.due("road(0, 6) mended", x.road(0, 6), 1);
  }

  private static void fog() {
    // LOT 100 of night 0: of SEED 15 it is 0, of 226 it is 99; of SEED 0: 21 46 98 14 54; of 9999: 77 15 79 42 17
    t.edge(7, "A night has FOG if LOT 100 is less than FOG: never by 0, always by 100");
    t.due("LOT 0 by fog 0", Texts.read("seed 15;fog 0;").count(7), 0);
    t.due("LOT 0 by fog 1", Texts.read("seed 15;fog 1;").count(7), 1);
    t.due("LOT 99 by fog 99", Texts.read("seed 226;fog 99;").count(7), 0);
    t.due("LOT 99 by fog 100", Texts.read("seed 226;fog 100;").count(7), 1);
    t.due("LOT 21 by fog 21", Texts.read("fog 21;").count(7), 0);
    t.due("LOT 21 by fog 22", Texts.read("fog 22;").count(7), 1);
    GhostPike none = Texts.read("fog 0;"), all = Texts.read("fog 100;");
    for (int i = 0; i < 40; i++) {
      t.due("fog 0 in night " + i, none.count(7), 0);
      t.due("fog 100 in night " + i, all.count(7), 1);
      none.nights(1);
      all.nights(1);
    }
    t.edge(7, "LOT of the greatest SEED, in each night another");
    int[] lots = {77, 15, 79, 42, 17};
    for (int n = 0; n < 5; n++) {
      GhostPike x = Texts.read("seed 9999;fog " + lots[n] + ";"), y = Texts.read("seed 9999;fog " + (lots[n] + 1) + ";");
      x.nights(n);
      y.nights(n);
      t.due("count(7) by fog " + lots[n], x.count(7), 0);
      t.due("count(7) by fog " + (lots[n] + 1), y.count(7), 1);
    }
    t.edge(7, "LOT of a night far on: 9990 has 16 of SEED 0");
    GhostPike x = Texts.read("fog 16;"), y = Texts.read("fog 17;");
    for (int i = 0; i < 333; i++) {
      x.nights(30);
      y.nights(30);
    }
    t.due("count(3)", x.count(3), 9990);
    t.due("count(7) by fog 16", x.count(7), 0);
    t.due("count(7) by fog 17", y.count(7), 1);
  }

  private static void costs() {
    t.edge(8, "COST: the least, the greatest");
    GhostPike x = Texts.read(PAIR + "road a b 1;road a b 9 field gate;ghost g a b 0 0 1;owes = 99;fears = 99;");
    t.due("cost(0, 0)", x.cost(0, 0), 1);
    t.due("cost(0, 1)", x.cost(0, 1), 207);
    t.edge(8, "what he OWES if there is a GATE on it, what he FEARS if it is over a FIELD");
    x = Texts.read(PAIR + "road a b 1;road a b 1 gate;road a b 1 field;road a b 1 field gate;ghost g a b 0 0 1;owes = 10;fears = 20;");
    int[] due = {1, 11, 21, 31};
    for (int r = 0; r < 4; r++) t.due("cost(0, " + r + ")", x.cost(0, r), due[r]);
    x.gate(0, true);
    x.gate(3, false);
    t.due("cost(0, 0) with a gate put up", x.cost(0, 0), 11);
    t.due("cost(0, 3) with the gate taken down", x.cost(0, 3), 21);
    t.edge(8, "now, BROKEN or not");
    x = Texts.read(PAIR + "road a b 4 field gate;ghost g a b 0 0 1;owes = 2;fears = 1;bears = 0;");
    t.due("cost(0, 0)", x.cost(0, 0), 7);
    t.edge(8, "of what he CARRIES there is no word: he OWES more than that");
    x = Texts.read(PAIR + "road a b 1 gate;ghost g a b 0 0 1;owes = 50;");
    t.due("cost(0, 0)", x.cost(0, 0), 51);
    t.edge(8, "NONE: no such ones");
    x = Texts.read(PAIR + "road a b 1;road a b 1;ghost g a b 0 0 1;");
    t.due("cost(0, 1)", x.cost(0, 1), 1);
    t.due("cost(0, 2)", x.cost(0, 2), NONE);
    t.due("cost(1, 0)", x.cost(1, 0), NONE);
    t.due("cost(-1, 0)", x.cost(-1, 0), NONE);
    t.due("cost(0, -1)", x.cost(0, -1), NONE);
    for (int far : Edges.FAR) {
      t.due("cost(0, " + far + ")", x.cost(0, far), NONE);
      t.due("cost(" + far + ", 0)", x.cost(far, 0), NONE);
    }
    t.edge(8, "each GHOST on each ROAD by himself, asked in a row");
    x = Texts.read(PAIR + Edges.often("road a b 1 gate;", 12) + Edges.letters("ghost g# a b 0 0 1;", 1) + "ghost x a b 3 0 1;ghost y a b 7 0 1;owes = kind * 12 + which;");
    for (int g = 0; g < 3; g++) for (int r = 0; r < 12; r++) t.due("cost(" + g + ", " + r + ")", x.cost(g, r), 1 + 12 * x.ghost(g, 0) + r);
    t.edge(8, "the last ROAD, the last GHOST of a full text");
    x = Texts.read(PAIR + Edges.often("road a b 1;", 11) + "road a b 7 gate;" + Edges.letters("ghost g# a b 0 0 1;", 6) + "ghost z a b 9 0 1;owes = kind;");
    t.due("cost(6, 11)", x.cost(6, 11), 16);
    t.due("cost(6, 12)", x.cost(6, 12), NONE);
    t.due("cost(7, 11)", x.cost(7, 11), NONE);
  }

  /** A row of eight PLACES, of seven ROADS in the order of their numbers or against it, with a way round. */
  private static String row(boolean turned, String kind, String behind) {
    StringBuilder s = new StringBuilder(Edges.letters("place #;", 8));
    for (int i = 0; i < 7; i++) {
      int at = turned ? 6 - i : i;
      s.append("road ").append((char) ('a' + at)).append(' ').append((char) ('b' + at)).append(' ').append(kind).append(';');
    }
    return s + behind;
  }

  private static void ways() {
    for (boolean turned : new boolean[] {false, true}) {
      t.edge(9, "the longest WAY: seven ROADS, of the greatest COST");
      GhostPike x = Texts.read(row(turned, "9 field gate", "ghost z a h 0 99 1;ghost y h a 0 0 1;owes = 99;fears = 99;"));
      for (int g = 0; g < 2; g++) {
        t.due("way(" + g + ", 0)", x.way(g, 0), 1449);
        t.due("way(" + g + ", 1)", x.way(g, 1), 63);
        t.due("way(" + g + ", 2)", x.way(g, 2), 7);
        t.due("way(" + g + ", 3)", x.way(g, 3), g == 0 ? 99 : 0);
        for (int i = 0; i < 7; i++) t.due("wayAt(" + g + ", " + i + ")", x.wayAt(g, i), turned == (g == 0) ? 6 - i : i);
        t.due("wayAt(" + g + ", 7)", x.wayAt(g, 7), NONE);
      }
      t.edge(9, "of least COST together: the longer one by 1 less, the shorter one by 1 less");
      x = Texts.read(row(turned, "1", "road a h 8;ghost z a h 0 0 1;"));
      t.due("way(0, 2) against 8", x.way(0, 2), 7);
      x = Texts.read(row(turned, "1", "road a h 6;ghost z a h 0 0 1;"));
      t.due("way(0, 2) against 6", x.way(0, 2), 1);
      t.due("wayAt(0, 0) against 6", x.wayAt(0, 0), 7);
    }
    t.edge(9, "what he pays: nothing, less than he CARRIES, just that, no more than that");
    String two = "place a;place b;place c;road a b 1 gate;road b c 1 gate;owes = 3;";
    int[] pays = {0, 1, 2, 3, 4, 5, 6, 6, 6};
    for (int carries = 0; carries <= 8; carries++)
      t.due("way(0, 3) of " + carries, Texts.read(two + "ghost g a c 0 " + carries + " 1;").way(0, 3), pays[carries]);
    t.edge(9, "-2: there is none: no ROAD, none that leads there, all BROKEN");
    t.due("no road", Texts.read(PAIR + "ghost g a b 0 0 1;").way(0, 0), -2);
    t.due("none from there", Texts.read("place a;place b;place c;road a b 1;ghost g c a 0 0 1;").way(0, 0), -2);
    t.due("none to there", Texts.read("place a;place b;place c;road a b 1;ghost g a c 0 0 1;").way(0, 0), -2);
    GhostPike x = Texts.read("place a;place b;place c;road a b 1;road b c 1;ghost g a c 0 0 1;bears = which;");
    for (int what = 0; what < 4; what++) t.due("way(0, " + what + ") broken", x.way(0, what), -2);
    t.edge(9, "NONE: no such ones, though there is no WAY");
    t.due("way(0, 4)", x.way(0, 4), NONE);
    t.due("way(0, -1)", x.way(0, -1), NONE);
    t.due("way(1, 0)", x.way(1, 0), NONE);
    t.due("way(-1, 0)", x.way(-1, 0), NONE);
    for (int far : Edges.FAR) {
      t.due("way(0, " + far + ")", x.way(0, far), NONE);
      t.due("way(" + far + ", 0)", x.way(far, 0), NONE);
    }
    t.edge(9, "NONE: no such ones, though there is a WAY");
    x = Texts.read(PAIR + "road a b 1;ghost g a b 0 0 1;");
    t.due("way(0, 3)", x.way(0, 3), 0);
    t.due("way(0, 4)", x.way(0, 4), NONE);
    t.due("way(0, -1)", x.way(0, -1), NONE);
    t.due("way(1, 0)", x.way(1, 0), NONE);
    t.edge(9, "whether it is his night or not");
    x = Texts.read(PAIR + "road a b 1;ghost g a b 0 0 9;");
    x.nights(1);
    t.due("ghost(0, 3)", x.ghost(0, 3), 0);
    t.due("way(0, 0)", x.way(0, 0), 1);
    t.edge(9, "a BROKEN ROAD is none of a WAY, though it would be the cheapest");
    x = Texts.read(PAIR + "road a b 1;road a b 9;ghost g a b 0 0 1;bears = which * 9;");
    t.due("wayAt(0, 0)", x.wayAt(0, 0), 1);
    t.due("way(0, 0)", x.way(0, 0), 9);
  }

  private static void alike() {
    t.edge(10, "of alike ones at each PLACE the first ROAD by number by which it still is so");
    GhostPike x = Texts.read(PAIR + "road a b 2;road b a 2;road a b 2;ghost g a b 0 0 1;ghost h b a 0 0 1;");
    t.due("wayAt(0, 0)", x.wayAt(0, 0), 0);
    t.due("wayAt(1, 0)", x.wayAt(1, 0), 0);
    t.edge(10, "alike: the first ROAD by number, not the fewest ROADS");
    x = Texts.read("place a;place b;place c;road a b 1;road a c 2;road b c 1;ghost g a c 0 0 1;ghost h c a 0 0 1;");
    t.due("wayAt(0, 0)", x.wayAt(0, 0), 0);
    t.due("wayAt(0, 1)", x.wayAt(0, 1), 2);
    t.due("wayAt(1, 0)", x.wayAt(1, 0), 1);
    t.due("way(1, 2)", x.way(1, 2), 1);
    t.edge(10, "alike: at each PLACE, not by what the ROADS' numbers are together");
    x = Texts.read("place a;place b;place c;place d;road c d 1;road a b 1;road a c 1;road b d 1;ghost g a d 0 0 1;ghost h d a 0 0 1;");
    t.due("wayAt(0, 0)", x.wayAt(0, 0), 1);
    t.due("wayAt(0, 1)", x.wayAt(0, 1), 3);
    t.due("wayAt(1, 0)", x.wayAt(1, 0), 0);
    t.due("wayAt(1, 1)", x.wayAt(1, 1), 2);
    t.edge(10, "alike by COST, though not by HOURS");
    x = Texts.read(PAIR + "road a b 4;road a b 1 gate;road a b 2 field;ghost g a b 0 9 1;owes = 3;fears = 2;");
    t.due("wayAt(0, 0)", x.wayAt(0, 0), 0);
    x = Texts.read(PAIR + "road a b 2 field;road a b 1 gate;road a b 4;ghost g a b 0 9 1;owes = 3;fears = 2;");
    t.due("wayAt(0, 0)", x.wayAt(0, 0), 0);
    t.due("way(0, 1)", x.way(0, 1), 2);
    t.edge(10, "alike ones, of which the first is BROKEN");
    x = Texts.read(PAIR + "road a b 4;road a b 4;road a b 4;ghost g a b 0 9 1;bears = which;");
    t.due("wayAt(0, 0)", x.wayAt(0, 0), 1);
    t.edge(10, "alike again when a GATE goes: the first by number is his again");
    x = Texts.read(PAIR + "road a b 1 gate;road a b 1;ghost g a b 0 9 1;");
    t.due("wayAt(0, 0) with a gate", x.wayAt(0, 0), 1);
    x.gate(0, false);
    t.due("wayAt(0, 0) without", x.wayAt(0, 0), 0);
    x.undo();
    t.due("wayAt(0, 0) undone", x.wayAt(0, 0), 1);
    x.rate(0);
    t.due("wayAt(0, 0) by rate 0", x.wayAt(0, 0), 0);
  }

  private static void wayAt() {
    t.edge(10, "its i-th ROAD: the first, the last; NONE: not so many");
    GhostPike x = Texts.read("place a;place b;place c;road a b 1;road b c 1;ghost g a c 0 0 1;ghost h c b 0 0 1;");
    t.due("wayAt(0, 0)", x.wayAt(0, 0), 0);
    t.due("wayAt(0, 1)", x.wayAt(0, 1), 1);
    t.due("wayAt(0, 2)", x.wayAt(0, 2), NONE);
    t.due("wayAt(0, 7)", x.wayAt(0, 7), NONE);
    t.due("wayAt(0, 8)", x.wayAt(0, 8), NONE);
    t.due("wayAt(0, MAX)", x.wayAt(0, Integer.MAX_VALUE), NONE);
    t.due("wayAt(1, 0)", x.wayAt(1, 0), 1);
    t.due("wayAt(1, 1), shorter than the one ahead", x.wayAt(1, 1), NONE);
    t.edge(10, "NONE (looked at first): no such GHOST, i below 0");
    t.due("wayAt(2, 0)", x.wayAt(2, 0), NONE);
    t.due("wayAt(-1, 0)", x.wayAt(-1, 0), NONE);
    t.due("wayAt(0, -1)", x.wayAt(0, -1), NONE);
    t.due("wayAt(0, MIN)", x.wayAt(0, Integer.MIN_VALUE), NONE);
    for (int far : Edges.FAR) t.due("wayAt(" + far + ", 0)", x.wayAt(far, 0), NONE);
    t.edge(10, "NONE (looked at first), though there is no WAY; else -2, whichever i");
    x = Texts.read(PAIR + "ghost g a b 0 0 1;");
    t.due("wayAt(0, -1)", x.wayAt(0, -1), NONE);
    t.due("wayAt(0, MIN)", x.wayAt(0, Integer.MIN_VALUE), NONE);
    t.due("wayAt(1, 0)", x.wayAt(1, 0), NONE);
    t.due("wayAt(0, 0)", x.wayAt(0, 0), -2);
    t.due("wayAt(0, 1)", x.wayAt(0, 1), -2);
    t.due("wayAt(0, MAX)", x.wayAt(0, Integer.MAX_VALUE), -2);
  }

  private static void night() {
    t.edge(7, "whose night it is (the night's rest by EVERY is 0): every 1 .. 9, night 0 is everybody's");
    StringBuilder s = new StringBuilder(PAIR + "road a b 1;");
    for (int e = 1; e <= 7; e++) s.append("ghost g").append((char) ('a' + e)).append(" a b 0 0 ").append(e + (e > 5 ? 2 : 0)).append(';');
    GhostPike x = Texts.read(s + "bears = 999;");
    int[] went = new int[7];
    for (int n = 0; n <= 18; n++) {
      for (int g = 0; g < 7; g++) {
        int every = x.ghost(g, 2);
        t.due("ghost(" + g + ", 3) in night " + n, x.ghost(g, 3), n % every == 0 ? 1 : 0);
        if (n % every == 0) went[g]++;
      }
      x.nights(1);
    }
    for (int g = 0; g < 7; g++) t.due("ghost(" + g + ", 5)", x.ghost(g, 5), went[g]);
    t.edge(7, "GHOST by GHOST, by how all is just then: who comes later finds the ROAD BROKEN");
    x = Texts.read(PAIR + "road a b 1;road a b 5;" + Edges.letters("ghost g# a b 0 0 1;", 4) + "bears = 2;");
    x.nights(1);
    t.due("road(0, 5)", x.road(0, 5), 2);
    t.due("road(1, 5)", x.road(1, 5), 2);
    x.nights(1);
    for (int g = 0; g < 4; g++) {
      t.due("ghost(" + g + ", 5)", x.ghost(g, 5), 1);
      t.due("ghost(" + g + ", 6)", x.ghost(g, 6), 1);
    }
    t.edge(7, "by how all is just then: WEAR of the one ahead makes it dearer, he goes elsewhere");
    x = Texts.read(PAIR + "road a b 1 field;road a b 3;ghost g a b 0 0 1;ghost h a b 0 0 1;ghost i a b 0 0 1;fears = wear;");
    x.nights(1);
    t.due("road(0, 5): at 3 it is alike, the first by number", x.road(0, 5), 3);
    x.nights(1);
    t.due("road(0, 5) behind", x.road(0, 5), 3);
    t.due("road(1, 5) behind", x.road(1, 5), 3);
    t.edge(7, "by how all is just then, in nights that go by in one call as in nights by themselves");
    String both = PAIR + "road a b 1 field gate;road a b 3 field;road a b 4 gate;road a b 9;ghost g a b 1 9 1;ghost h b a 2 9 2;ghost i a b 0 9 1;fog 50;";
    for (String var : new String[] {"foggy * 4", "wear", "wear * 2", "night", "9 - night", "foggy * 3 + wear", "9 - wear - night / 2"}) {
      for (String law : new String[] {"owes = " + var + ";", "fears = " + var + ";", "bears = 6 + " + var + ";", "owes = " + var + ";fears = 8 - (" + var + ");bears = 15 - night;"}) {
        GhostPike one = Texts.read(both + law), many = Texts.read(both + law);
        one.nights(13);
        for (int n = 0; n < 13; n++) {
          many.nights(1);
          many.hold(0);
        }
        for (int r = 0; r < 4; r++) for (int w = 5; w <= 8; w++) t.due("road(" + r + ", " + w + ") by " + law, one.road(r, w), many.road(r, w));
        for (int g = 0; g < 3; g++) for (int w = 4; w <= 7; w++) t.due("ghost(" + g + ", " + w + ") by " + law, one.ghost(g, w), many.ghost(g, w));
      }
    }
    t.edge(7, "else he STAYS: nothing is paid, worn, seen");
    x = Texts.read(PAIR + "road a b 1 field gate;ghost g a b 0 9 1;bears = 0;");
    x.nights(3);
    int[] due = {1, 0, 0, 3, 0};
    for (int i = 0; i < 5; i++) t.due("ghost(0, " + (3 + i) + ")", x.ghost(0, 3 + i), due[i]);
    t.due("road(0, 5)", x.road(0, 5), 0);
    t.due("road(0, 7)", x.road(0, 7), 0);
    t.due("road(0, 8)", x.road(0, 8), 0);
    t.due("count(5)", x.count(5), 0);
    t.edge(7, "he does not STAY when it is not his night");
    x = Texts.read(PAIR + "ghost g a b 0 9 4;");
    x.nights(4);
    t.due("ghost(0, 6)", x.ghost(0, 6), 1);
    x.nights(1);
    t.due("ghost(0, 6) in night 5", x.ghost(0, 6), 2);
  }

  private static void pays() {
    t.edge(7, "he pays no more than he yet CARRIES that night, GATE by GATE");
    String three = "place a;place b;place c;place d;road a b 1 gate;road b c 1 gate;road c d 1 gate;owes = 4;";
    int[][] paid = {{0, 0, 0}, {1, 0, 0}, {4, 0, 0}, {4, 1, 0}, {4, 4, 0}, {4, 4, 3}, {4, 4, 4}, {4, 4, 4}};
    int[] carries = {0, 1, 4, 5, 8, 11, 12, 13};
    for (int i = 0; i < carries.length; i++) {
      GhostPike x = Texts.read(three + "ghost g a d 0 " + carries[i] + " 1;");
      x.nights(1);
      int sum = 0;
      for (int r = 0; r < 3; r++) {
        t.due("road(" + r + ", 8) of " + carries[i], x.road(r, 8), paid[i][r]);
        sum += paid[i][r];
      }
      t.due("ghost(0, 4)", x.ghost(0, 4), sum);
      t.due("count(5)", x.count(5), sum);
      x.nights(1);
      t.due("ghost(0, 4) of two nights: he CARRIES it anew", x.ghost(0, 4), 2 * sum);
    }
    t.edge(7, "the other way round he pays at the other GATE first");
    GhostPike x = Texts.read(three + "ghost g d a 0 5 1;");
    x.nights(1);
    t.due("road(2, 8)", x.road(2, 8), 4);
    t.due("road(1, 8)", x.road(1, 8), 1);
    t.due("road(0, 8)", x.road(0, 8), 0);
    t.edge(7, "the greatest he can pay: 99");
    x = Texts.read(three.replace("= 4", "= 99") + "ghost g a d 0 99 1;");
    x.nights(2);
    t.due("ghost(0, 4)", x.ghost(0, 4), 198);
    t.due("road(0, 8)", x.road(0, 8), 198);
    t.due("road(1, 8)", x.road(1, 8), 0);
    t.edge(7, "SEEN on each FIELD of his WAY, each time he goes");
    x = Texts.read("place a;place b;place c;road a b 1 field;road b c 1 field;ghost g a c 0 0 1;ghost h b a 0 0 1;");
    x.nights(2);
    t.due("ghost(0, 7)", x.ghost(0, 7), 4);
    t.due("ghost(1, 7)", x.ghost(1, 7), 2);
    t.due("road(0, 7)", x.road(0, 7), 4);
    t.due("road(1, 7)", x.road(1, 7), 2);
  }

  private static void roads() {
    t.edge(6, "what 0 .. 8 of a ROAD; NONE for others");
    GhostPike x = Texts.read(PAIR + "road b a 3 field gate;ghost g a b 0 2 1;");
    x.nights(2);
    int[] due = {1, 0, 3, 1, 1, 2, 0, 2, 2};
    for (int i = 0; i < 9; i++) t.due("road(0, " + i + ")", x.road(0, i), due[i]);
    t.due("road(0, 9)", x.road(0, 9), NONE);
    t.due("road(0, -1)", x.road(0, -1), NONE);
    for (int far : Edges.FAR) t.due("road(0, " + far + ")", x.road(0, far), NONE);
    t.edge(6, "NONE for others: no such ROAD");
    t.due("road(1, 0)", x.road(1, 0), NONE);
    t.due("road(-1, 0)", x.road(-1, 0), NONE);
    for (int far : Edges.FAR) t.due("road(" + far + ", 0)", x.road(far, 0), NONE);
    t.edge(6, "the twelfth ROAD, and no thirteenth; the eighth PLACE");
    x = Texts.read(Edges.letters("place #;", 8) + Edges.often("road a b 1;", 11) + "road h g 9 field gate;bears = 11 - which;");
    int[] last = {7, 6, 9, 1, 1, 0, 1, 0, 0};
    for (int i = 0; i < 9; i++) t.due("road(11, " + i + ")", x.road(11, i), last[i]);
    t.due("road(10, 6)", x.road(10, 6), 0);
    t.due("road(12, 0)", x.road(12, 0), NONE);
    t.edge(6, "a ROAD of the text ahead is no ROAD of this one");
    Texts.put(x, PAIR + "road a b 1;");
    x.read();
    t.due("road(0, 0)", x.road(0, 0), 0);
    for (int r = 1; r <= 12; r++) t.due("road(" + r + ", 0)", x.road(r, 0), NONE);
  }

  private static void ghosts() {
    t.edge(7, "what 0 .. 7 of a GHOST; NONE for others");
    GhostPike x = Texts.read(PAIR + "road a b 1 field gate;ghost g a b 4 2 3;");
    x.nights(4);
    int[] due = {4, 2, 3, 0, 2, 2, 0, 2};
    for (int i = 0; i < 8; i++) t.due("ghost(0, " + i + ")", x.ghost(0, i), due[i]);
    t.due("ghost(0, 8)", x.ghost(0, 8), NONE);
    t.due("ghost(0, -1)", x.ghost(0, -1), NONE);
    for (int far : Edges.FAR) t.due("ghost(0, " + far + ")", x.ghost(0, far), NONE);
    t.edge(7, "NONE for others: no such GHOST");
    t.due("ghost(1, 0)", x.ghost(1, 0), NONE);
    t.due("ghost(-1, 0)", x.ghost(-1, 0), NONE);
    for (int far : Edges.FAR) t.due("ghost(" + far + ", 0)", x.ghost(far, 0), NONE);
    t.edge(7, "the seventh GHOST, and no eighth");
    x = Texts.read(PAIR + "road a b 1 field gate;" + Edges.letters("ghost g# a b 0 0 1;", 6) + "ghost z b a 9 99 9;");
    x.nights(1);
    int[] last = {9, 99, 9, 0, 1, 1, 0, 1};
    for (int i = 0; i < 8; i++) t.due("ghost(6, " + i + ")", x.ghost(6, i), last[i]);
    t.due("ghost(7, 0)", x.ghost(7, 0), NONE);
    t.edge(7, "a GHOST of the text ahead is no GHOST of this one");
    Texts.put(x, PAIR + "ghost g a b 1 1 1;");
    x.read();
    t.due("ghost(0, 0)", x.ghost(0, 0), 1);
    for (int g = 1; g <= 7; g++) t.due("ghost(" + g + ", 0)", x.ghost(g, 0), NONE);
  }
}
