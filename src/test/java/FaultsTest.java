/** Promises 4 and 5: every FAULT and its place; a '|' stands where the FAULT is and is no part of the text. */
public final class FaultsTest {
  private static int wrong = 0;

  private static void due(String text, int fault) {
    int place = text.indexOf('|');
    String plain = place < 0 ? text : text.substring(0, place) + text.substring(place + 1);
    if (plain.length() > 2000) throw new IllegalArgumentException("too long: " + plain.length());
    GhostPike x = new GhostPike();
    Texts.put(x, plain);
    check(text + ": tape", x.count(8), plain.length());
    check(text + ": place() ahead", x.place(), -1);
    check(text + ": read()", x.read(), fault);
    check(text + ": place()", x.place(), place);
    check(text + ": tape behind", x.count(8), 0);
  }

  private static void good(String text) { due(text, 0); }

  private static void check(String what, int got, int want) {
    if (got != want) { wrong++; System.out.println(what + " answered " + got + ", due is " + want); }
  }

  private static String often(String s, int n) { return s.repeat(n); }

  private static String letters(String form, int n) {
    StringBuilder s = new StringBuilder();
    for (int i = 0; i < n; i++) s.append(form.replace('#', (char) ('a' + i)));
    return s.toString();
  }

  public static void main(String[] args) {
    good("");
    good(" \t\n\r");
    good("place a;");
    good("place\ta\n;\r");
    good("place abcdefgh;");
    good("place placea;place ifx;place nights;");
    good("place a;place b;road a b 9;road b a 1 field;road a b 1 gate;road a b 1 field gate;ghost g b a 9 99 9;");
    good("place a;place b;road a b0009;ghost g a b 0 0 1;ghost h a b 0000 0099 0009;");
    good("fog 0;fog 100;lamp 0 100;lamp 100 0;seed 0;seed 9999;");
    good("owes=1;fears=9999;bears=kind+carries-every*foggy/rate+hours-wear*which/night;");
    good("owes = if 1 < 2 then 3 else if rate < kind then (1) else 4 + 5;");
    good("owes = if 1<2 then 1 else if 1<2 then 1 else if 1<2 then 1 else if 1<2 then 1 else 1;");
    good("owes = ((((((1)+1)+1)+1)+1)+1)+((((((1))))));");
    good("owes=1;owes=2;bears=1;bears=2;fears=1;fears=2;");
    syntax();
    room();
    sense();
    changesNothing();
    System.out.println(wrong == 0 ? "all faults are as due" : wrong + " answers are not as due");
    if (wrong != 0) System.exit(1);
  }

  private static void syntax() {
    String ab = "place a;place b;";
    for (String s : new String[] {"|a;", "|1;", "|;", "|A", "|.", "|if", "|gate;", "|kind;", "place |place;",
        "place |night;", "place |1;", "place |;", "place a|", "place a |", "place |", "place a |b;", "place a|.",
        "place a;|\0", "place a;|\u00e9", "place |abcdefghi;", "place |thenelsex;", "place a|;".replace("|;", "|=")}) {
      due(s, 1);
    }
    for (String s : new String[] {"road a b |;", "road a b |c;", "road a |1;", "road a b |12345;", "road a b 1 gate |field;",
        "road a b 1 field |field;", "road a b 1 field gate |gate;", "road a b 1|", "road a b 1 |place c;",
        "ghost g a b 1 1|;", "ghost g a b 1 1 1 |1;", "ghost g a |1 1 1 1;", "ghost |ghost a b 1 1 1;",
        "ghost g a b |00000 1 1;"}) {
      due(ab + s, 1);
    }
    for (String s : new String[] {"fog |x;", "fog|;", "fog 1 |1;", "lamp 1|;", "lamp 1 1 |1;", "seed |;", "seed 1 |2;",
        "seed |12345;", "owes |1;", "owes = |;", "owes = |a;", "owes = |-1;", "owes = 1 +|;", "owes = 1 + |* 2;",
        "owes = (1|;", "owes = (1 |2);", "owes = 1|);", "owes = (1)|);", "owes = (|);", "owes = 1 |2;", "owes = 1 |< 2;",
        "owes = 1 |(2);", "owes = if 1 < 2 then 3|;", "owes = if 1 |then 2 else 3;", "owes = if 1 < 2 |< 3 then 4 else 5;",
        "owes = if 1 < 2 then 3 else|;", "owes = if (1 |< 2) then 3 else 4;", "owes = (|if 1 < 2 then 3 else 4);",
        "owes = 1 |if 1 < 2 then 3 else 4;", "owes = if 1 < 2 |else 3;", "owes = if |if 1 < 2 then 3 else 4;",
        "owes = 1|", "owes|", "owes = 1 |then;", "owes = |place;", "owes = 1 |, 2;", "owes = 1; |= 2;",
        "owes = if 1 < 2 then |if 1 < 2 then 3 else 4 else 5;", "bears = 1 - |- 2;", "fears = kind |night;"}) {
      due(s, 1);
    }
  }

  private static void room() {
    String eight = letters("place #;", 8);
    due(eight + "|place i;", 2);
    due(eight + "|place place", 2);
    due("place |;" + eight + "place i;", 1);
    String roads = "place a;place b;" + often("road a b 1;", 12);
    good(roads);
    due(roads + "|road a b 1;", 2);
    String ghosts = "place a;place b;" + letters("ghost g# a b 1 1 1;", 7);
    good(ghosts);
    due(ghosts + "|ghost gz a b 1 1 1;", 2);
    due(ghosts + "|ghost gz a b;", 2);
    String fourIfs = "owes = " + often("if 1<2 then 1 else ", 4);
    due(fourIfs + "|if 1<2 then 1 else 1;", 2);
    due(fourIfs + "|if;", 2);
    good(fourIfs + "1;" + fourIfs + "1;");
    due("fears = (((((( |(1)))))));", 2);
    due("fears = ((((((1)))))) + (((((( |( ;", 2);
    good("fears = if (((((( 1 )))))) < (((((( 1 )))))) then (((((( 1 )))))) else (((((( 1 ))))));");
    due("fears = ((((((1+1)*(2)-3)+(4))))) + (((((( 5 + |(", 2);
    // 400 TOKENS: 'seed 1;' has 3, 'lamp 1 1;' has 4
    String full = often("seed 1;", 132) + "lamp 1 1;";
    good(full);
    good(full + "   ");
    due(full + "|seed 1;", 2);
    due(full + "|;", 1);
    due(full + " |#", 1);
    due(full + "|abcdefghi", 1);
    due(full + "|place place", 2);
    due(often("seed 1;", 133) + "seed |1;", 2);
    due(often("seed 1;", 133) + "seed|", 1);
    due("place a;place b;road a b 1;ghost g a b 1 1 1;lamp 1 1;" + often("seed 1;", 125) + "seed 1 |;", 2);
    // What comes first by its place counts, of one place the least.
    due(eight + "|place i; oops", 2);
    due("oops|".replace("oops|", "|oops ") + eight + "place i;", 1);
  }

  private static void sense() {
    String ab = "place a;place b;";
    due("place a;place |a;", 3);
    due(ab + "place c;place |b;", 3);
    due(ab + "ghost |a a b 1 1 1;", 3);
    due(ab + "ghost g a b 1 1 1;ghost |g a b 1 1 1;", 3);
    due(ab + "ghost g a b 1 1 1;place |g;", 3);
    due("place a;road a |a 1;", 3);
    due(ab + "ghost g b |b 1 1 1;", 3);
    due("road |a b 1;", 4);
    due("place a;road a |b 1;", 4);
    due("place a;road a |b 1;place b;", 4);
    due("road |a a 1;", 4);
    due(ab + "ghost g |c b 1 1 1;", 4);
    due(ab + "ghost g a |c 1 1 1;", 4);
    due(ab + "ghost g a |g 1 1 1;", 4);
    due(ab + "ghost g a b 1 1 1;road a |g 1;", 4);
    due(ab + "road a b |0;", 5);
    due(ab + "road a b |10;", 5);
    due(ab + "road a b |9999 gate;", 5);
    due(ab + "ghost g a b |10 1 1;", 5);
    due(ab + "ghost g a b 1 |100 1;", 5);
    due(ab + "ghost g a b 1 1 |0;", 5);
    due(ab + "ghost g a b 1 1 |10;", 5);
    due("fog |101;", 5);
    due("lamp |101 1;", 5);
    due("lamp 1 |101;", 5);
    // the first by its place
    due(ab + "road a |a 0;", 3);
    due(ab + "road a b |0;place a;", 5);
    due(ab + "road a |c 0;", 4);
    due(ab + "ghost |a c c 10 100 0;", 3);
    due("fog |101;lamp 101 101;road x x 0;", 5);
    due(ab + "ghost g a b |10 100 0;", 5);
    // what is wrong by its form goes ahead, wherever it stands
    due("place a;place a;|x", 1);
    due("fog 101;" + letters("place #;", 8) + "|place z;", 2);
    due("road a b 0|", 1);
    // a place that is told twice still counts as one more
    due(often("place a;", 8) + "|place a;", 2);
  }

  private static void changesNothing() {
    GhostPike x = Texts.read("place a;place b;road a b 1 field;ghost g a b 1 1 1;");
    x.nights(2);
    x.hold(1);
    x.tell(0, 3, true);
    x.rate(7);
    for (String bad : new String[] {"place", "place a;place a;", "road x y 1;", "fog 101;", letters("place #;", 9)}) {
      Texts.put(x, bad);
      int fault = x.read();
      check("a fault in " + bad, fault > 0 ? 1 : 0, 1);
      int[] counts = {2, 1, 1, 2, 7, 0, 0, 0, 0, 2, 1, 1, 0};
      for (int i = 0; i < counts.length; i++) check("count(" + i + ") behind " + bad, x.count(i), counts[i]);
      check("wear behind " + bad, x.road(0, 5), 2);
      check("cost behind " + bad, x.cost(0, 0), 6);
      check("way behind " + bad, x.way(0, 0), 6);
      check("who behind " + bad, x.who(1, 0), 1);
    }
    // A text without a FAULT is in place of it all.
    Texts.put(x, "place c;");
    check("read()", x.read(), 0);
    check("place()", x.place(), -1);
    int[] counts = {1, 0, 0, 0, 1, 0, 0, 0, 0, 0, 0, 0, 0};
    for (int i = 0; i < counts.length; i++) check("count(" + i + ") anew", x.count(i), counts[i]);
    check("undo()", x.undo() ? 1 : 0, 0);
    check("restore(1)", x.restore(1) ? 1 : 0, 0);
    // The empty tape is a text, too.
    check("read() of nothing", x.read(), 0);
    check("count(0)", x.count(0), 0);
  }
}
