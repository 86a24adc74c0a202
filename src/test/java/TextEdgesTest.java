/** Promises 1 to 5: edges of the tape, of a text's TOKENS and numbers, of its FAULTS and their places. */
public final class TextEdgesTest {
  private static final int NONE = -1;
  private static final int BLANKS = 0x20202020;
  private static final Edges t = new Edges();
  private static final String PAIR = Edges.PAIR;
  private static final String[] WORDS = {"place", "road", "field", "gate", "ghost", "owes", "fears", "bears", "fog", "lamp",
      "seed", "if", "then", "else", "kind", "carries", "every", "foggy", "rate", "hours", "wear", "which", "night"};

  public static void main(String[] args) {
    newObject();
    feed();
    back();
    longest();
    bytes();
    names();
    ints();
    optional();
    numbers();
    notTold();
    sorts();
    tokens();
    ifs();
    brackets();
    twice();
    name();
    order();
    place();
    faultChangesNothing();
    inPlaceOfTheOneAhead();
    textBehindText();
    t.end(1, 5);
  }

  private static String often(String s, int n) { return Edges.often(s, n); }
  private static String letters(String form, int n) { return Edges.letters(form, n); }

  private static void newObject() {
    t.edge(1, "Nothing is told");
    GhostPike x = new GhostPike();
    int[] counts = {0, 0, 0, 0, 1, 0, 0, 0, 0, 0, 0, 0, 0};
    for (int i = 0; i < counts.length; i++) t.due("count(" + i + ")", x.count(i), counts[i]);
    t.due("place()", x.place(), NONE);
    int[] lamp = {x.sheet(true, false), x.sheet(true, true), x.sheet(false, false), x.sheet(false, true)};
    int[] lampDue = {1, 37, 4, 13};
    for (int i = 0; i < 4; i++) t.due("sheet " + i, lamp[i], lampDue[i]);
    t.edge(1, "empty: no PLACE, no ROAD, no GHOST for any call");
    int[] none = {x.road(0, 0), x.ghost(0, 0), x.cost(0, 0), x.way(0, 0), x.wayAt(0, 0), x.mend(0), x.saves(0), x.pays(0, 0),
        x.seen(0, 0), x.breaks(0), x.meets(0, 1), x.cutOff(0), x.tell(0, 0, true), x.who(0, 1), x.who(1, NONE), x.keepers(1, 16)};
    for (int i = 0; i < none.length; i++) t.due("call " + i, none[i], NONE);
    int[] absent = {x.put(1, 1, 0), x.put(3, 9, 1), x.busiest(0, 0), x.busiest(60, 1), x.first(0), x.first(1), x.watch(0, 0), x.watch(0, 30)};
    for (int i = 0; i < absent.length; i++) t.due("-2 of call " + i, absent[i], -2);
    int[] nought = {x.tonight(0), x.tonight(1), x.tonight(2), x.free(), x.stop(0), x.stop(1), x.best(1, 0), x.best(30, 1),
        x.year(0, 1), x.year(60, 20), x.forget(), x.who(0, 0), x.keepers(1, 0), x.nights(0), x.back(0)};
    for (int i = 0; i < nought.length; i++) t.due("0 of call " + i, nought[i], 0);
    t.due("who(0, NONE)", x.who(0, NONE), 1);
    t.due("keepers(9, NONE)", x.keepers(9, NONE), 16);
    t.due("keepers(9, 15)", x.keepers(9, 15), 33);
    boolean[] refused = {x.undo(), x.gate(0, true), x.gate(0, false), x.rate(1), x.restore(0), x.restore(1), x.restore(2)};
    for (int i = 0; i < refused.length; i++) t.due("refused call " + i, refused[i], false);
    t.due("count(9)", x.count(9), 0);
    t.edge(1, "each object is by itself");
    GhostPike y = new GhostPike();
    Texts.put(x, "place a;");
    t.due("count(8) of the other", y.count(8), 0);
    x.read();
    t.due("count(0)", x.count(0), 1);
    t.due("count(0) of the other", y.count(0), 0);
  }

  private static void feed() {
    t.edge(2, "Twenty bytes, the highest of a first");
    for (int at = 0; at < 20; at++) {
      int[] w = {BLANKS, BLANKS, BLANKS, BLANKS, BLANKS};
      w[at / 4] ^= (' ' ^ '.') << 24 - 8 * (at % 4);
      GhostPike x = new GhostPike();
      t.due("feed", x.feed(w[0], w[1], w[2], w[3], w[4]), 20);
      t.due("read() with a '.' at " + at, x.read(), 1);
      t.due("place() of a '.' at " + at, x.place(), at);
    }
    t.edge(2, "bytes of 128 and more are bytes, too");
    for (int b : new int[] {0, 127, 128, 133, 160, 233, 255}) {
      GhostPike x = new GhostPike();
      x.feed(BLANKS, BLANKS & ~255 | b, BLANKS, BLANKS, BLANKS);
      t.due("read() of " + b, x.read(), 1);
      t.due("place() of " + b, x.place(), 7);
    }
    t.edge(2, "come behind the tape: how many it has");
    GhostPike x = new GhostPike();
    for (int i = 1; i < 100; i++) t.due("feed " + i, x.feed(BLANKS, BLANKS, BLANKS, BLANKS, BLANKS), 20 * i);
    t.edge(2, "just 2,000");
    t.due("feed 100", x.feed(BLANKS, BLANKS, BLANKS, 0x706c6163, 0x6520613b), 2000);
    t.edge(2, "NONE, and nothing comes, if it would have more than 2,000");
    t.due("feed 101", x.feed(-1, -1, -1, -1, -1), NONE);
    t.due("feed 102", x.feed(0, 0, 0, 0, 0), NONE);
    t.due("count(8)", x.count(8), 2000);
    t.due("read()", x.read(), 0);
    t.due("count(0)", x.count(0), 1);
    t.edge(2, "the tape, which is empty then, takes 2,000 again");
    for (int i = 1; i <= 100; i++) t.due("feed " + i + " anew", x.feed(BLANKS, BLANKS, BLANKS, BLANKS, BLANKS), 20 * i);
    t.due("feed 101 anew", x.feed(-1, -1, -1, -1, -1), NONE);
    t.edge(2, "more than 2,000 by one byte");
    t.due("back(19)", x.back(19), 1981);
    t.due("feed at 1981", x.feed(-1, -1, -1, -1, -1), NONE);
    t.due("count(8)", x.count(8), 1981);
    t.due("back(1)", x.back(1), 1980);
    t.due("feed at 1980", x.feed(BLANKS, BLANKS, BLANKS, BLANKS, 0x2020202e), 2000);
    t.due("feed at 2000", x.feed(-1, -1, -1, -1, -1), NONE);
    t.due("read()", x.read(), 1);
    t.due("place()", x.place(), 1999);
  }

  private static void back() {
    GhostPike x = new GhostPike();
    t.edge(3, "empty: it has not so many");
    t.due("back(1)", x.back(1), NONE);
    t.due("back(0)", x.back(0), 0);
    t.edge(3, "The last n bytes of the tape go");
    Texts.put(x, "place a;place b;    ");
    t.due("back(12)", x.back(12), 8);
    t.due("read()", x.read(), 0);
    t.due("count(0)", x.count(0), 1);
    t.edge(3, "none, one, all but one, all go");
    Texts.put(x, "place c;place d;place e;place f;place.g;");
    t.due("back(0)", x.back(0), 40);
    t.due("back(1)", x.back(1), 39);
    t.due("back(38)", x.back(38), 1);
    t.due("back(1) of one", x.back(1), 0);
    Texts.put(x, "place c;place d;    ");
    t.due("back(20) of twenty", x.back(20), 0);
    t.edge(3, "NONE, and nothing goes, if it has not so many, or n is below 0");
    Texts.put(x, "place c;place d;place e;place f;        ");
    t.due("back(41) of forty", x.back(41), NONE);
    t.due("back(-1)", x.back(-1), NONE);
    for (int far : Edges.FAR) t.due("back(" + far + ")", x.back(far), NONE);
    t.due("count(8)", x.count(8), 40);
    t.due("read()", x.read(), 0);
    t.due("count(0)", x.count(0), 4);
    t.edge(3, "a full tape goes");
    Texts.put(x, often(" ", 2000));
    t.due("back(2001)", x.back(2001), NONE);
    t.due("back(2000)", x.back(2000), 0);
    t.due("back(1)", x.back(1), NONE);
    t.edge(3, "what went does not come again");
    Texts.put(x, "place x;place y;    ");
    x.back(20);
    t.due("read()", x.read(), 0);
    t.due("count(0)", x.count(0), 0);
  }

  private static void longest() {
    t.edge(4, "A TEXT has 2,000 bytes at most: the last one is read, too");
    String blanks = often(" ", 1992);
    t.due("count(0)", t.good(blanks + "place a;").count(0), 1);
    t.due("count(0)", t.good("place a;" + blanks).count(0), 1);
    t.fault(often(" ", 1999) + "|.", 1);
    t.fault(often(" ", 1999) + "|;", 1);
    t.edge(5, "the text's end: its length, 2,000 at most");
    t.fault(often(" ", 1995) + "place|", 1);
    t.fault("place" + often(" ", 1995) + "|", 1);
    t.edge(4, "empty");
    t.good("");
    t.good(" ");
    t.edge(5, "the text's end: its length, blanks behind the last TOKEN counted");
    t.fault("place|", 1);
    t.fault("place \t\r\n |", 1);
    t.fault("place a   |", 1);
    t.edge(4, "the one long NAME, the one long INT of 2,000 bytes are no TOKENS");
    t.fault("|" + often("a", 2000), 1);
    t.fault("seed |" + often("0", 1995), 1);
    t.fault("place |" + often("z", 1990) + ";", 1);
  }

  /** Every byte in three texts: within an INT, within a NAME, between two INTS. */
  private static void bytes() {
    for (int b = 0; b < 256; b++) {
      char c = (char) b;
      boolean blank = b == 9 || b == 10 || b == 13 || b == 32;
      boolean digit = b >= 48 && b <= 57;
      boolean letter = b >= 97 && b <= 122;
      boolean work = c == '+' || c == '-' || c == '*' || c == '/';
      t.edge(4, "blanks (9, 10, 13, 32), letters a .. z, digits, SIGNS; all else is no TOKEN: byte " + b);
      int inInt = blank || digit ? NONE : c == ';' ? 6 : 5;
      t.readAt("fog 1" + c + ";", inInt == NONE ? 0 : 1, inInt);
      int inName = blank || letter ? NONE : c == ';' ? 8 : 7;
      t.readAt("place a" + c + ";", inName == NONE ? 0 : 1, inName);
      int between = digit || work ? NONE : blank || c == ';' ? 7 : 6;
      t.readAt("owes=1" + c + "1;", between == NONE ? 0 : 1, between);
    }
    t.edge(4, "with blanks between or not");
    t.good("place a;place b;road a b1field gate;ghost g a b1 1 1;owes=if 1<2then 1else 2;");
    t.good("\r\n place\n\na\t;\r\nplace   b ; road a\tb\n1\rfield\r\ngate ; ");
    t.edge(4, "TOKENS, the longest that can be");
    t.fault("|placea;", 1);
    t.fault("place a;place b;|roada b 1;", 1);
    t.fault("place a;place b;road a b 1 |fieldgate;", 1);
    t.fault("owes = |ifrate < 1 then 1 else 1;", 1);
    t.fault("fog 1 |1;", 1);
    t.good("fog 11;");
  }

  private static void names() {
    t.edge(4, "NAMES (letters a .. z, 8 at most)");
    for (int n = 1; n <= 8; n++) t.good("place " + often("z", n) + ";");
    for (int n : new int[] {9, 10, 12, 13, 14, 16, 32, 64, 65, 100, 256, 257}) t.fault("place |" + often("z", n) + ";", 1);
    t.edge(4, "a longer one is no TOKEN, though it begins or ends as a word does");
    t.fault("|placeplace a;", 1);
    t.fault("|aaaaaaaaplace a;", 1);
    t.fault("|" + often("a", 13) + "place a;", 1);
    t.edge(4, "NAMES that differ in one letter or in length are others");
    t.due("count(0)", t.good("place aaaaaaaa;place aaaaaaab;place aaaaaaa;place a;place aa;place baaaaaaa;place z;place za;").count(0), 8);
    t.edge(4, "none of the words in quotes");
    for (String word : WORDS) {
      t.fault("place |" + word + ";", 1);
      t.fault(PAIR + "ghost |" + word + " a b 1 1 1;", 1);
      t.fault(PAIR + "road a |" + word + " 1;", 1);
    }
    t.edge(4, "a word with a letter more or less is a NAME");
    for (String word : WORDS) t.good("place " + word + "x;place " + word.substring(0, word.length() - 1) + ";");
  }

  private static void ints() {
    t.edge(4, "INTS (1 to 4 digits)");
    t.good("seed 0;seed 00;seed 000;seed 0000;seed 9;seed 99;seed 999;seed 9999;");
    t.fault("seed |00000;", 1);
    t.fault("seed |10000;", 1);
    t.fault("seed |99999;", 1);
    t.fault("seed |4294967296;", 1);
    t.fault("seed |18446744073709551616;", 1);
    t.fault("seed |;", 1);
    t.edge(4, "zeros ahead count as digits, not in the number");
    GhostPike x = t.good(PAIR + "road a b 0009;ghost g a b 0009 0099 0009;");
    t.due("road(0, 2)", x.road(0, 2), 9);
    t.due("ghost(0, 0)", x.ghost(0, 0), 9);
    t.due("ghost(0, 1)", x.ghost(0, 1), 99);
    t.due("ghost(0, 2)", x.ghost(0, 2), 9);
    t.edge(4, "an INT of a LAW may be any");
    t.good("owes = 0;owes = 9999;fears = 0000;bears = 9999;");
    t.fault("owes = |10000;", 1);
  }

  private static void optional() {
    t.edge(4, "['field'] ['gate']: none, one, both, in this order");
    GhostPike x = t.good(PAIR + "road a b 1;road a b 1 field;road a b 1 gate;road a b 1 field gate;");
    int[][] due = {{0, 0}, {1, 0}, {0, 1}, {1, 1}};
    for (int r = 0; r < 4; r++) {
      t.due("road(" + r + ", 3)", x.road(r, 3), due[r][0]);
      t.due("road(" + r + ", 4)", x.road(r, 4), due[r][1]);
    }
    t.fault(PAIR + "road a b 1 gate |field;", 1);
    t.fault(PAIR + "road a b 1 gate |gate;", 1);
    t.fault(PAIR + "road a b 1 field |field;", 1);
    t.fault(PAIR + "road a b 1 field gate |field;", 1);
    t.fault(PAIR + "road a b 1 field gate |gate;", 1);
    t.edge(4, "with which no text goes on: what lacks, what is too much");
    for (String s : new String[] {"place|;", "road|;", "road a|;", "road a b|;", "ghost|;", "ghost g|;", "ghost g a|;", "ghost g a b|;",
        "ghost g a b 1|;", "ghost g a b 1 1|;", "ghost g a b 1 1 1 |1;", "road a b 1 |1;", "place c |c;", "fog|;", "lamp|;", "lamp 1|;",
        "seed|;", "fog 1 |1;", "lamp 1 1 |1;", "seed 1 |1;", "owes|;", "owes =|;", "owes |1;", "owes = |= 1;",
        "owes = 1 +|;", "owes = 1 -|;", "owes = 1 *|;", "owes = 1 /|;", "owes = |+ 1;", "owes = |- 1;", "owes = (|);", "owes = (1|;",
        "owes = 1|);", "owes = if|;", "owes = if 1|;", "owes = if 1 <|;", "owes = if 1 < 2|;", "owes = if 1 < 2 then|;",
        "owes = if 1 < 2 then 3|;", "owes = if 1 < 2 then 3 else|;", "owes = if 1 |then 2 else 3;", "owes = 1 |< 2;",
        "owes = if 1 < 2 |< 3 then 1 else 2;", "owes = 1 |else 2;", "owes = 1 |then 2;", "owes = 1 |if 1 < 2 then 3 else 4;",
        "owes = (|if 1 < 2 then 3 else 4);", "owes = if 1 < 2 then |if 1 < 2 then 3 else 4 else 5;", "owes = |a;", "owes = 1 |a;",
        "owes = 1 |(1);", "owes = kind |kind;", "|;", "place c;|;", "|field;", "|if;", "|kind;", "|c;", "|1;"}) {
      t.fault(PAIR + s, 1);
    }
  }

  /** What must stand ahead of a number and behind it, and from where to where the number goes. */
  private static void number(String sentence, String ahead, String behind, int low, int high) {
    t.edge(4, sentence);
    t.good(ahead + low + behind);
    t.good(ahead + high + behind);
    t.edge(5, sentence);
    if (low > 0) t.fault(ahead + "|" + (low - 1) + behind, 5);
    if (high < 9999) t.fault(ahead + "|" + (high + 1) + behind, 5);
    if (high < 9999) t.fault(ahead + "|9999" + behind, 5);
  }

  private static void numbers() {
    number("HOURS 1 .. 9", PAIR + "road a b ", " gate;", 1, 9);
    number("KIND 0 .. 9", PAIR + "ghost g a b ", " 1 1;", 0, 9);
    number("CARRIES 0 .. 99", PAIR + "ghost g a b 1 ", " 1;", 0, 99);
    number("EVERY 1 .. 9", PAIR + "ghost g a b 1 1 ", ";", 1, 9);
    number("FOG 0 .. 100", "fog ", ";", 0, 100);
    number("LAMP: how many of 100 that come are SHEETS 0 .. 100", "lamp ", " 1;", 0, 100);
    number("LAMP: of how many of 100 the lamp tells what they are not 0 .. 100", "lamp 1 ", ";", 0, 100);
    number("SEED 0 .. 9999", "seed ", ";", 0, 9999);
    t.edge(5, "WRONG of one that is not the last one, too");
    t.fault("fog |101;fog 100;", 5);
    t.fault("lamp |101 0;lamp 1 1;", 5);
    t.edge(4, "numbers at their ends are kept");
    GhostPike x = t.good(PAIR + "road a b 1;road b a 9;ghost g a b 0 0 1;ghost h b a 9 99 9;");
    int[] got = {x.road(0, 2), x.road(1, 2), x.ghost(0, 0), x.ghost(0, 1), x.ghost(0, 2), x.ghost(1, 0), x.ghost(1, 1), x.ghost(1, 2)};
    int[] due = {1, 9, 0, 0, 1, 9, 99, 9};
    for (int i = 0; i < due.length; i++) t.due("number " + i, got[i], due[i]);
  }

  private static void notTold() {
    t.edge(4, "OWES (rate), FEARS (5), BEARS (99), if not told");
    GhostPike x = t.good(PAIR + "road a b 1 gate;road a b 1 field;ghost g a b 0 9 1;");
    t.due("cost(0, 0)", x.cost(0, 0), 2);
    t.due("cost(0, 1)", x.cost(0, 1), 6);
    x.rate(9);
    t.due("cost(0, 0) by rate 9", x.cost(0, 0), 10);
    t.due("breaks(1)", x.breaks(1), 99);
    t.edge(4, "FOG (0), SEED (0), LAMP (10, 20), if not told");
    t.due("count(7)", x.count(7), 0);
    t.due("count(7) of SEED 0 by FOG 22", t.good("fog 22;").count(7), 1);
    t.due("sheet(false, true)", x.sheet(false, true), 13);
    t.edge(4, "the last one");
    x = t.good(PAIR + "owes = 1;fears = 1;bears = 1;fog 0;seed 7;lamp 1 1;road a b 1 field gate;ghost g a b 0 9 1;"
        + "owes = 3;fears = 4;bears = 6;fog 22;seed 0;lamp 50 50;");
    t.due("cost(0, 0)", x.cost(0, 0), 8);
    t.due("breaks(0)", x.breaks(0), 6);
    t.due("count(7)", x.count(7), 1);
    t.due("sheet(true, true)", x.sheet(true, true), 2);
    t.edge(4, "the last LAW leaves nothing of a longer one ahead");
    x = t.good(PAIR + "owes = if rate < 9 then 50 else if wear < 9 then 60 else 70 / 0;owes = 2;road a b 1 gate;ghost g a b 0 9 1;");
    t.due("cost(0, 0)", x.cost(0, 0), 3);
    t.edge(4, "a text without LAWS behind one with them: as if not told");
    Texts.put(x, PAIR + "road a b 1 field gate;ghost g a b 0 9 1;");
    t.due("read()", x.read(), 0);
    t.due("cost(0, 0)", x.cost(0, 0), 7);
    t.due("breaks(0)", x.breaks(0), 99);
  }

  private static void sorts() {
    t.edge(4, "PLACES, 8 at most");
    String places = letters("place #;", 8);
    t.due("count(0)", t.good(places).count(0), 8);
    t.edge(5, "ROOM: one more PLACE than told (at its first TOKEN)");
    t.fault(places + "  |place i;", 2);
    t.fault(places + "|place a;", 2);
    t.fault(places + "|place;", 2);
    t.fault(places + "|place", 2);
    t.edge(4, "ROADS, 12 at most");
    String roads = PAIR + often("road a b 1;", 12);
    t.due("count(1)", t.good(roads).count(1), 12);
    t.edge(5, "ROOM: one more ROAD than told (at its first TOKEN)");
    t.fault(roads + " |road a b 1;", 2);
    t.fault(roads + "|road a x 0;", 2);
    t.fault(roads + "|road;", 2);
    t.edge(4, "GHOSTS, 7 at most");
    String ghosts = PAIR + letters("ghost g# a b 1 1 1;", 7);
    t.due("count(2)", t.good(ghosts).count(2), 7);
    t.edge(5, "ROOM: one more GHOST than told (at its first TOKEN)");
    t.fault(ghosts + "\n|ghost z a b 1 1 1;", 2);
    t.fault(ghosts + "|ghost ga a a 10 100 0;", 2);
    t.fault(ghosts + "|ghost", 2);
    t.edge(4, "all sorts full at once");
    GhostPike x = t.good(places + often("road a b 1;", 12) + letters("ghost g# a b 1 1 1;", 7));
    t.due("count(0)", x.count(0), 8);
    t.due("count(1)", x.count(1), 12);
    t.due("count(2)", x.count(2), 7);
    t.edge(4, "as many LAWS, FOGS, LAMPS, SEEDS as one likes");
    t.good(often("owes=1;", 13) + often("fears=1;", 13) + often("bears=1;", 13) + often("fog 1;", 13) + often("lamp 1 1;", 13) + often("seed 1;", 13));
    t.edge(4, "numbered each from 0 on as they stand");
    x = t.good("place b;place a;road a b 2;ghost h a b 1 1 1;place c;road c b 3;ghost g c a 2 2 2;");
    int[] got = {x.road(0, 0), x.road(0, 1), x.road(0, 2), x.road(1, 0), x.road(1, 1), x.road(1, 2), x.ghost(0, 0), x.ghost(1, 0)};
    int[] due = {1, 0, 2, 2, 0, 3, 1, 2};
    for (int i = 0; i < due.length; i++) t.due("number " + i, got[i], due[i]);
  }

  private static void tokens() {
    // 'seed 1;' has 3 TOKENS, 'lamp 1 1;' has 4.
    String some = often("seed 1;", 132);
    String full = some + "lamp 1 1;";
    t.edge(4, "400 TOKENS");
    t.good(full);
    t.good(full + often(" ", 100));
    t.good(some + "owes=1;");
    t.edge(5, "ROOM: a 401st TOKEN");
    for (String word : new String[] {"place", "road", "ghost", "owes", "fears", "bears", "fog", "lamp", "seed"}) {
      t.fault(full + " |" + word, 2);
      t.fault(full + "|" + word + " 1;", 2);
    }
    t.fault(some + "seed 1;seed |1;", 2);
    t.fault(some + "fog 1;fog |1;", 2);
    t.fault(some + "seed 1;place |a;", 2);
    t.fault(often("seed 1;", 130) + "lamp 1 1;lamp 1 1;seed 1|;", 2);
    t.edge(5, "ROOM: a 401st TOKEN within a LAW");
    t.fault(some + "owes=1+|1;", 2);
    t.fault(some + "owes=1+|kind;", 2);
    t.fault(some + "owes=1+|(1);", 2);
    t.fault(some + "owes=(1|);", 2);
    t.fault(some + "owes=(1|+1);", 2);
    t.fault(some + "owes=if 1|<2 then 3 else 4;", 2);
    t.fault(often("seed 1;", 131) + "owes=if 1<2 then |3 else 4;", 2);
    t.fault(often("seed 1;", 130) + "lamp 1 1;lamp 1 1;owes=|if", 2);
    t.fault(often("seed 1;", 131) + "owes=1+2+3|+4;", 2);
    t.edge(5, "of one place the least: a 401st with which no text goes on is SYNTAX");
    for (String bad : new String[] {";", "a", "1", "if", "field", "(", "=", "#", "abcdefghi", "12345", "kind"}) t.fault(full + " |" + bad, 1);
    t.fault(some + "seed 1;seed |seed;", 1);
    t.fault(some + "owes=1+|;", 1);
    t.fault(some + "owes=1+|if;", 1);
    t.fault(some + "owes=(1|;", 1);
    t.edge(5, "the text's end is no TOKEN: of 400 that lack something it is SYNTAX");
    t.fault(some + "seed 1;seed|", 1);
    t.fault(some + "owes=1+  |", 1);
    t.edge(5, "the first by its place: what stands behind the 401st counts no more");
    t.fault(full + "|seed 1;seed 1;oops", 2);
    t.fault(some + "|oops lamp 1 1;seed 1;", 1);
    t.edge(4, "one LAW of all the TOKENS that are left");
    // 20 TOKENS ahead, 380 of the LAW: 0, a hundred times +1, 88 times -1
    String law = "owes=0" + often("+1", 100) + often("-1", 88) + ";";
    t.due("cost(0, 0)", t.good(PAIR + "road a b 1 gate;ghost g a b 0 0 1;" + law).cost(0, 0), 13);
    t.fault(PAIR + "road a b 1 gate;ghost g a b 0 0 1;owes=0" + often("+1", 100) + often("-1", 88) + "-|1;", 2);
  }

  private static void ifs() {
    String four = often("if 1 < 1 then 1 else ", 4);
    t.edge(4, "four ifs of a LAW");
    t.good("owes = " + four + "1;fears = " + four + "1;bears = " + four + "1;owes = " + four + "1;");
    t.edge(5, "ROOM: a 5th if of a LAW (at it)");
    for (String law : new String[] {"owes", "fears", "bears"}) {
      t.fault(law + " = " + four + "|if 1 < 1 then 1 else 1;", 2);
      t.fault(law + " = " + four + "|if", 2);
      t.fault(law + " = " + four + "|if if;", 2);
      t.fault(law + " = 1;" + law + " = " + four + "|if 1 < 1 then 1 else " + four + "1;", 2);
    }
  }

  private static void brackets() {
    String open = often("(", 6), shut = often(")", 6);
    t.edge(4, "six ( within one another");
    t.good("owes = " + open + "1" + shut + ";");
    t.edge(5, "ROOM: a 7th ( within one another (at it)");
    t.fault("owes = " + open + "|(1)" + shut + ";", 2);
    t.fault("owes = " + open + "|(", 2);
    t.fault("fears = 1 + (1 + (1 + (1 + (1 + (1 + (1 + |(1 + 1)))))));", 2);
    t.fault("bears = if " + open + "|(1", 2);
    t.fault("bears = if 1 < " + open + "1 + |(1", 2);
    t.fault("bears = if 1 < 2 then " + open + "|(1", 2);
    t.fault("bears = if 1 < 2 then 1 else " + open + "|(1", 2);
    t.edge(4, "seven and more ( that are not within one another");
    t.good("owes = " + often("(1)+", 20) + "1;");
    t.good("owes = " + open + "1" + shut + " + " + open + "1" + shut + ";");
    t.good("owes = ((((((1)+(1))+(1))+(1))+(1))+(1));");
    t.good("owes = if " + open + "1" + shut + " < " + open + "1" + shut + " then " + open + "1" + shut + " else " + open + "1" + shut + ";");
    t.edge(5, "a ) more than ( were, a ( more than )");
    t.fault("owes = " + open + "1" + shut + "|);", 1);
    t.fault("owes = " + open + "1)))))|;", 1);
    t.fault("owes = 1|);", 1);
    t.fault("owes = if (1 |< 2) then 1 else 1;", 1);
    t.fault("owes = if 1 < (2 |then 1 else 1;", 1);
    t.edge(4, "the deepest E, with works that wait at every depth");
    String text = PAIR + "road a b 1 gate;ghost g a b 0 0 1;";
    String deep = "1+2*(1+2*(1+2*(1+2*(1+2*(1+2*(1+2*3))))))";
    t.due("cost by 511 - 500", t.good(text + "owes=" + deep + "-500;").cost(0, 0), 12);
    String left = "3-((((((1-2*3)*2-1)*2-1)*2-1)*2-1)*2-1)";
    t.due("cost by a left one", t.good(text + "owes=if " + left + "<" + deep + " then 7 else 8;").cost(0, 0), 8);
    t.due("cost by a right one", t.good(text + "owes=if " + deep + "<" + deep + "+1 then 7 else 8;").cost(0, 0), 8);
    t.due("cost by equal ones", t.good(text + "owes=if " + deep + "<" + deep + " then 7 else 9;").cost(0, 0), 10);
  }

  private static void twice() {
    t.edge(5, "TWICE: a NAME told already (all together)");
    t.fault("place a;place |a;", 3);
    t.fault(letters("place #;", 7) + "place |a;", 3);
    t.fault(letters("place #;", 7) + "place |g;", 3);
    t.fault(PAIR + "ghost |a a b 1 1 1;", 3);
    t.fault(PAIR + "ghost |b a b 1 1 1;", 3);
    t.fault(PAIR + "ghost g a b 1 1 1;ghost |g a b 1 1 1;", 3);
    t.fault(PAIR + "ghost g a b 1 1 1;place |g;", 3);
    t.fault(PAIR + letters("ghost g# a b 1 1 1;", 6) + "ghost |gf a b 1 1 1;", 3);
    t.fault("place aaaaaaaa;place aaaaaaab;place |aaaaaaaa;", 3);
    t.edge(5, "TWICE: (at the second NAME) a ROAD from a PLACE to itself");
    t.fault(PAIR + "road a |a 1;", 3);
    t.fault(PAIR + "road b |b 1;", 3);
    t.good(PAIR + "road a b 1;road a b 1;road b a 1;");
    t.edge(5, "TWICE: (at the second NAME) a GHOST's way from a PLACE to itself");
    t.fault(PAIR + "ghost g a |a 1 1 1;", 3);
    t.fault(PAIR + "ghost g b |b 1 1 1;", 3);
  }

  private static void name() {
    t.edge(5, "NAME: (at it) no such PLACE told ahead");
    t.fault("road |a b 1;", 4);
    t.fault("place a;road a |b 1;place b;", 4);
    t.fault("place b;road |a b 1;place a;", 4);
    t.fault("ghost g |a b 1 1 1;", 4);
    t.fault("place a;ghost g a |b 1 1 1;", 4);
    t.fault("road |a a 1;", 4);
    t.fault("ghost g |a a 1 1 1;", 4);
    t.edge(5, "NAME: a GHOST's one is no PLACE");
    t.fault(PAIR + "ghost g a b 1 1 1;road a |g 1;", 4);
    t.fault(PAIR + "ghost g |g b 1 1 1;", 4);
    t.fault(PAIR + "ghost g a |g 1 1 1;", 4);
    t.edge(5, "a NAME told more than once is that of the first one");
    t.fault("place a;place b;place |a;road a a 1;", 3);
    t.fault("place b;place a;ghost |a a b 1 1 1;", 3);
  }

  private static void order() {
    t.edge(5, "FAULTS 1 and 2: the first by its place");
    t.fault(letters("place #;", 8) + "|place i;#", 2);
    t.fault("|#" + letters("place #;", 8) + "place i;".replace('#', 'x'), 1);
    t.fault("owes = (((((( |( ((((((((; if if if", 2);
    t.edge(5, "If there is none, likewise: FAULTS 3 to 5 wait for 1 and 2");
    t.fault("fog 101;place a;place a;road x y 0;|#", 1);
    t.fault("fog 101;place a;place a;road x y 0|", 1);
    t.fault("fog 101;place a;place a;road x y 0;owes = (((((( |(", 2);
    t.fault("road x y 0;" + letters("place #;", 8) + "|place a;", 2);
    t.edge(5, "FAULTS 3 to 5: the first by its place, whichever number it has");
    t.fault("fog |101;road x y 0;place a;place a;", 5);
    t.fault("road |x y 0;fog 101;place a;place a;", 4);
    t.fault("place a;place |a;road x y 0;fog 101;", 3);
    t.fault(PAIR + "road a |a 0;", 3);
    t.fault(PAIR + "road a |x 0;", 4);
    t.fault(PAIR + "road |x x 0;", 4);
    t.fault(PAIR + "ghost |a x x 10 100 0;", 3);
    t.fault(PAIR + "ghost g |x b 10 100 0;", 4);
    t.fault(PAIR + "ghost g a |a 10 100 0;", 3);
    t.fault(PAIR + "ghost g a b |10 100 0;", 5);
    t.fault(PAIR + "ghost g a b 1 |100 0;", 5);
    t.fault(PAIR + "ghost g a b 1 1 |0;road a a 0;", 5);
    t.fault("lamp |101 101;", 5);
    t.edge(5, "one that is told wrongly counts for the room of its sort");
    t.fault(often("place a;", 8) + "|place b;", 2);
    t.fault(often("road x x 0;", 12) + "|road x x 0;", 2);
    t.fault(often("ghost g x x 10 100 0;", 7) + "|ghost h x x 0 0 0;", 2);
  }

  private static void place() {
    GhostPike x = new GhostPike();
    t.edge(5, "NONE without: nothing was read yet");
    t.due("place()", x.place(), NONE);
    Texts.put(x, "  .");
    t.due("place() ahead of read()", x.place(), NONE);
    t.edge(5, "The byte of the latest read()'s FAULT, however often it is asked");
    x.read();
    t.due("place()", x.place(), 2);
    t.due("place() again", x.place(), 2);
    t.edge(5, "it stays while the tape, the nights, the SLOTS change");
    Texts.put(x, "place a;");
    x.back(2);
    x.nights(1);
    x.undo();
    x.hold(0);
    x.restore(0);
    t.due("place()", x.place(), 2);
    t.edge(5, "the latest one: another FAULT, then NONE");
    t.due("read()", x.read(), 1);
    t.due("place()", x.place(), 6);
    t.due("read() of nothing", x.read(), 0);
    t.due("place()", x.place(), NONE);
    t.edge(5, "byte 0");
    Texts.put(x, ";");
    t.due("read()", x.read(), 1);
    t.due("place()", x.place(), 0);
  }

  private static void faultChangesNothing() {
    String[] bad = {"place", "#", Edges.letters("place #;", 9), "owes = (((((((1)))))));", "place a;place a;", "road x y 1;", "fog 101;",
        "owes = 50;fears = 50;bears = 0;fog 100;lamp 50 50;seed 9;fog 101;"};
    for (String text : bad) {
      t.edge(4, "A text with a FAULT changes nothing but the tape: " + text);
      GhostPike x = Texts.read(PAIR + "road a b 1 field;road a b 7 gate;ghost g a b 1 9 1;ghost h b a 2 9 2;fears = 6;bears = 5;fog 50;");
      x.rate(3);
      x.hold(1);
      x.nights(3);
      x.gate(0, true);
      x.tell(0, 0, false);
      int[] before = Edges.sight(x);
      Texts.put(x, text);
      t.due("read()", x.read() > 0, true);
      t.due("count(8)", x.count(8), 0);
      t.same("read()", before, x);
      t.due("sheet(true, true)", x.sheet(true, true), 37);
      t.due("breaks(0)", x.breaks(0), 0);
      t.due("who(1, NONE)", x.who(1, NONE), 1);
      t.due("undo()", x.undo(), true);
      t.due("count(6)", x.count(6), 2);
      t.due("undo()", x.undo(), true);
      t.due("count(3)", x.count(3), 0);
      t.due("undo()", x.undo(), true);
      t.due("count(4)", x.count(4), 1);
      t.due("undo()", x.undo(), false);
      t.due("restore(1)", x.restore(1), true);
      t.due("count(4) restored", x.count(4), 3);
    }
  }

  private static void inPlaceOfTheOneAhead() {
    String text = PAIR + "road a b 1 field gate;ghost g a b 1 9 1;";
    for (String next : new String[] {"", " ", "place a;", text}) {
      t.edge(4, "else it is in place of the one ahead: night 0, RATE 1 .. SLOTS hold nothing: " + next);
      GhostPike x = Texts.read(text);
      x.nights(3);
      x.rate(0);
      x.gate(0, false);
      for (int slot = 0; slot < 3; slot++) x.hold(slot);
      x.tell(0, 0, true);
      Texts.put(x, next);
      t.due("read()", x.read(), 0);
      boolean whole = next.equals(text);
      int[] counts = {whole ? 2 : next.length() > 1 ? 1 : 0, whole ? 1 : 0, whole ? 1 : 0, 0, 1, 0, whole ? 1 : 0, 0, 0, 0, 0, 0, 0};
      for (int i = 0; i < counts.length; i++) t.due("count(" + i + ")", x.count(i), counts[i]);
      for (int i = 5; i <= 8; i++) t.due("road(0, " + i + ")", x.road(0, i), whole ? 0 : NONE);
      for (int i = 4; i <= 7; i++) t.due("ghost(0, " + i + ")", x.ghost(0, i), whole ? 0 : NONE);
      t.due("undo()", x.undo(), false);
      for (int slot = 0; slot < 3; slot++) t.due("restore(" + slot + ")", x.restore(slot), false);
      t.due("forget()", x.forget(), 0);
      t.due("who(0, NONE)", x.who(0, NONE), whole ? 2 : 1);
    }
  }

  private static void expectPlain(GhostPike x, String behind) {
    Texts.put(x, PAIR + "road a b 1;road a b 2 gate;road a b 2 field;ghost g a b 0 9 1;");
    t.due("read() behind " + behind, x.read(), 0);
    t.due("place() behind " + behind, x.place(), NONE);
    int[] counts = {2, 3, 1, 0, 1, 0, 2, 0, 0, 0, 0, 0, 0};
    for (int i = 0; i < counts.length; i++) t.due("count(" + i + ") behind " + behind, x.count(i), counts[i]);
    int[] costs = {1, 3, 7};
    for (int r = 0; r < 3; r++) {
      t.due("cost(0, " + r + ") behind " + behind, x.cost(0, r), costs[r]);
      t.due("road(" + r + ", 3) behind " + behind, x.road(r, 3), r == 2 ? 1 : 0);
    }
    t.due("breaks(0) behind " + behind, x.breaks(0), 99);
    t.due("sheet(true, true) behind " + behind, x.sheet(true, true), 37);
    t.due("wayAt(0, 0) behind " + behind, x.wayAt(0, 0), 0);
  }

  private static void textBehindText() {
    String rich = Edges.letters("place #;", 8) + often("road a b 9 field gate;", 12) + letters("ghost g# a b 9 99 9;", 7)
        + "owes = if wear < 9 then 50 else 60;fears = 40 + night;bears = 7 - night;fog 100;lamp 50 50;seed 15;";
    t.edge(4, "a text is read anew, whatever was told or faulty ahead of it");
    GhostPike x = new GhostPike();
    for (String ahead : new String[] {rich, rich + "fog 101;", rich + "#", "place a;place a;", "road x y 1;", "fog 101;", "place", rich + "place z;"}) {
      Texts.put(x, ahead);
      x.read();
      expectPlain(x, ahead);
    }
    t.edge(4, "a FAULT within a LAW leaves nothing to the next one");
    for (String ahead : new String[] {"owes = 1 + 2 * (3 + 4 * (5", "owes = 1 -", "owes = (((((((", "owes = if 1 < (2 * (", "bears = 0 * (1 + 0 * (",
        "owes = if 1 < 2 then 3 else if 4 < 5 then"}) {
      x = new GhostPike();
      Texts.put(x, ahead);
      t.due("read() of " + ahead, x.read() > 0, true);
      Texts.put(x, PAIR + "road a b 1 gate;ghost g a b 0 9 1;owes = 7;bears = 3;");
      t.due("read() behind " + ahead, x.read(), 0);
      t.due("cost(0, 0) behind " + ahead, x.cost(0, 0), 8);
      t.due("breaks(0) behind " + ahead, x.breaks(0), 3);
    }
    t.edge(4, "however many FAULTS within a LAW there were");
    x = new GhostPike();
    for (int i = 0; i < 5; i++) {
      Texts.put(x, "owes = 1+2*(1+2*(1+2*(1+2*(1+2*(1+2*(1");
      t.due("read() " + i, x.read(), 1);
    }
    Texts.put(x, PAIR + "road a b 1 gate;ghost g a b 0 9 1;owes = 1 + 2 * (9 - 2 * 3) - 1;");
    t.due("read()", x.read(), 0);
    t.due("cost(0, 0)", x.cost(0, 0), 7);
    t.edge(4, "SEED 0 if not told: a SEED of a text ahead is not that of the next ones");
    for (int i = 0; i < 3; i++) {
      Texts.put(x, "seed 15;fog 1;");
      x.read();
      t.due("count(7) of SEED 15", x.count(7), 1);
      for (int fog = 21; fog <= 22; fog++) {
        Texts.put(x, "fog " + fog + ";");
        x.read();
        t.due("count(7) of SEED 0 by FOG " + fog, x.count(7), fog - 21);
      }
    }
    t.edge(4, "FOG 0 if not told: no FOG in a night of LOT 0");
    t.due("count(7)", t.good("seed 15;").count(7), 0);
    t.edge(4, "other PLACES at the same prices: the WAY is another");
    x = Texts.read("place a;place b;place c;road a b 1;road b c 1;road a c 1;ghost g a b 0 0 1;");
    t.due("wayAt(0, 0)", x.wayAt(0, 0), 0);
    Texts.put(x, "place a;place b;place c;road a b 1;road b c 1;road a c 1;ghost g b c 0 0 1;");
    x.read();
    t.due("wayAt(0, 0) of the next", x.wayAt(0, 0), 1);
    Texts.put(x, "place a;place b;place c;road c b 1;road b a 1;road a c 1;ghost g b c 0 0 1;");
    x.read();
    t.due("wayAt(0, 0) of the one behind it", x.wayAt(0, 0), 0);
  }
}
