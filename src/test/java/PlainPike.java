import java.util.ArrayList;
import java.util.Arrays;
import java.util.List;
import java.util.regex.Matcher;
import java.util.regex.Pattern;

/**
 * The document once more, as plainly as it can be written and without a thought for speed or room: the program is
 * compared with it. Nothing here is taken from the program: texts are read by a grammar written out as data, WAYS are
 * found by trying all of them, nothing is kept from one question to the next.
 */
final class PlainPike {
  static final int NONE = -1;

  // ---- the grammar: a word in small letters or a sign stands for itself, N for a NAME, I for an INT ----
  private static final String[][] RULES = {
    {"Text", ""}, {"Text", "Tell Text"},
    {"Tell", "place N ;"}, {"Tell", "road N N I Field Gate ;"}, {"Tell", "ghost N N N I I I ;"},
    {"Tell", "owes Law ;"}, {"Tell", "fears Law ;"}, {"Tell", "bears Law ;"}, {"Tell", "fog I ;"},
    {"Tell", "lamp I I ;"}, {"Tell", "seed I ;"},
    {"Field", ""}, {"Field", "field"}, {"Gate", ""}, {"Gate", "gate"},
    {"Law", "= Ifs E"}, {"Ifs", ""}, {"Ifs", "if E < E then E else Ifs"},
    {"E", "Part Es"}, {"Es", ""}, {"Es", "+ Part Es"}, {"Es", "- Part Es"},
    {"Part", "Unit Units"}, {"Units", ""}, {"Units", "* Unit Units"}, {"Units", "/ Unit Units"},
    {"Unit", "I"}, {"Unit", "Var"}, {"Unit", "( E )"},
    {"Var", "kind"}, {"Var", "carries"}, {"Var", "every"}, {"Var", "foggy"}, {"Var", "rate"}, {"Var", "hours"},
    {"Var", "wear"}, {"Var", "which"}, {"Var", "night"},
  };
  private static final List<String> WORDS = Arrays.asList("place", "road", "field", "gate", "ghost", "owes", "fears",
      "bears", "fog", "lamp", "seed", "if", "then", "else", "kind", "carries", "every", "foggy", "rate", "hours",
      "wear", "which", "night");
  private static final Pattern LEXEME = Pattern.compile("[a-z]+|[0-9]+|[;=+\\-*/<()]");

  private static final class Token {
    String text;
    int place;
    String terminal() {
      char c = text.charAt(0);
      if (c >= '0' && c <= '9') return "I";
      return c >= 'a' && c <= 'z' && !WORDS.contains(text) ? "N" : text;
    }
    int number() { return Integer.parseInt(text); }
  }

  private static final class Road { int a, b, hours; boolean field, gate; }
  private static final class Ghost { int from, to, kind, carries, every; }

  private static final class Text {
    List<String> places = new ArrayList<>();
    List<Road> roads = new ArrayList<>();
    List<Ghost> ghosts = new ArrayList<>();
    List<String> owes = List.of("rate"), fears = List.of("5"), bears = List.of("99");
    int fog = 0, sheets = 10, errs = 20, seed = 0;
  }

  private static final class State {
    int night, rate, till, seed;
    int evenRate = -1, oddRate = -1;
    boolean[] gate, there;
    int[] wear, seenOn, paidOn, paid, went, stayed, seen;
    State copy() {
      State s = new State();
      s.night = night; s.rate = rate; s.till = till; s.seed = seed; s.evenRate = evenRate; s.oddRate = oddRate;
      s.gate = gate.clone(); s.there = there.clone();
      s.wear = wear.clone(); s.seenOn = seenOn.clone(); s.paidOn = paidOn.clone();
      s.paid = paid.clone(); s.went = went.clone(); s.stayed = stayed.clone(); s.seen = seen.clone();
      return s;
    }
    int rateOf(int road) { return evenRate < 0 ? rate : road % 2 == 0 ? evenRate : oddRate; }
    int gateBits() { return bits(gate); }
    void setGates(int bits) { for (int i = 0; i < gate.length; i++) gate[i] = (bits >> i & 1) != 0; }
  }

  private static int bits(boolean[] row) {
    int b = 0;
    for (int i = 0; i < row.length; i++) if (row[i]) b |= 1 << i;
    return b;
  }

  private final StringBuilder tape = new StringBuilder();
  private int faultPlace = NONE;
  private Text text = new Text();
  private State now = begin();
  private final List<State> undos = new ArrayList<>();
  private final State[] slots = new State[3];
  private final List<int[]> told = new ArrayList<>();

  private State begin() {
    State s = new State();
    int r = text.roads.size(), g = text.ghosts.size();
    s.rate = 1; s.seed = text.seed;
    s.gate = new boolean[r];
    for (int i = 0; i < r; i++) s.gate[i] = text.roads.get(i).gate;
    s.there = new boolean[g];
    Arrays.fill(s.there, true);
    s.wear = new int[r]; s.seenOn = new int[r]; s.paidOn = new int[r];
    s.paid = new int[g]; s.went = new int[g]; s.stayed = new int[g]; s.seen = new int[g];
    return s;
  }

  // ---- tape ----
  int feed(int... words) {
    if (tape.length() + 20 > 2000) return NONE;
    for (int w : words) for (int i = 3; i >= 0; i--) tape.append((char) (w >> 8 * i & 255));
    return tape.length();
  }
  int back(int n) {
    if (n < 0 || n > tape.length()) return NONE;
    tape.setLength(tape.length() - n);
    return tape.length();
  }
  int place() { return faultPlace; }

  int read() {
    String s = tape.toString();
    tape.setLength(0);
    List<Token> tokens = new ArrayList<>();
    int[] fault = formFault(s, tokens);
    Text t = new Text();
    if (fault == null) fault = senseFault(tokens, t);
    if (fault != null) { faultPlace = fault[1]; return fault[0]; }
    faultPlace = NONE;
    text = t;
    now = begin();
    undos.clear(); told.clear(); Arrays.fill(slots, null);
    return 0;
  }

  // ---- faults 1 and 2: all stacks of the grammar at once; every fault is noted with its place, the first counts ----
  private static int[] formFault(String s, List<Token> tokens) {
    List<int[]> faults = new ArrayList<>();
    List<List<String>> stacks = closure(List.of(List.of("Text")));
    int at = 0, ifs = 0, deep = 0;
    int[] sorts = new int[3];
    while (true) {
      while (at < s.length() && "\t\n\r ".indexOf(s.charAt(at)) >= 0) at++;
      if (at == s.length()) {
        if (stacks.stream().noneMatch(List::isEmpty)) faults.add(new int[] {1, at});
        break;
      }
      Matcher m = LEXEME.matcher(s).region(at, s.length());
      Token t = new Token();
      t.place = at;
      boolean isToken = m.lookingAt();
      if (isToken) {
        t.text = m.group();
        char c = t.text.charAt(0);
        if (c >= 'a' && c <= 'z' && t.text.length() > 8) isToken = false;
        if (c >= '0' && c <= '9' && t.text.length() > 4) isToken = false;
      }
      if (!isToken) { faults.add(new int[] {1, at}); break; }
      stacks = closure(step(stacks, t.terminal()));
      if (stacks.isEmpty()) { faults.add(new int[] {1, at}); break; }
      tokens.add(t);
      if (tokens.size() == 401) faults.add(new int[] {2, at});
      int sort = Arrays.asList("place", "road", "ghost").indexOf(t.text);
      if (sort >= 0 && ++sorts[sort] > new int[] {8, 12, 7}[sort]) faults.add(new int[] {2, at});
      if (t.text.equals("=")) ifs = 0;
      if (t.text.equals("if") && ++ifs == 5) faults.add(new int[] {2, at});
      if (t.text.equals("(") && ++deep == 7) faults.add(new int[] {2, at});
      if (t.text.equals(")")) deep--;
      at += t.text.length();
    }
    return firstOf(faults);
  }

  private static int[] firstOf(List<int[]> faults) {
    int[] first = null;
    for (int[] f : faults)
      if (first == null || f[1] < first[1] || f[1] == first[1] && f[0] < first[0]) first = f;
    return first;
  }

  private static List<List<String>> closure(List<List<String>> stacks) {
    List<List<String>> done = new ArrayList<>(), todo = new ArrayList<>(stacks);
    while (!todo.isEmpty()) {
      List<String> stack = todo.remove(todo.size() - 1);
      if (stack.isEmpty() || !isRule(stack.get(0))) { if (!done.contains(stack)) done.add(stack); continue; }
      for (String[] rule : RULES) {
        if (!rule[0].equals(stack.get(0))) continue;
        List<String> next = new ArrayList<>();
        if (!rule[1].isEmpty()) next.addAll(Arrays.asList(rule[1].split(" ")));
        next.addAll(stack.subList(1, stack.size()));
        todo.add(next);
      }
    }
    return done;
  }
  private static boolean isRule(String symbol) {
    for (String[] rule : RULES) if (rule[0].equals(symbol)) return true;
    return false;
  }
  private static List<List<String>> step(List<List<String>> stacks, String terminal) {
    List<List<String>> next = new ArrayList<>();
    for (List<String> stack : stacks)
      if (!stack.isEmpty() && stack.get(0).equals(terminal)) next.add(new ArrayList<>(stack.subList(1, stack.size())));
    return next;
  }

  // ---- faults 3 to 5: each TELL is a row of tokens up to ';' ----
  private static int[] senseFault(List<Token> tokens, Text t) {
    List<int[]> faults = new ArrayList<>();
    List<String> names = new ArrayList<>();
    for (int from = 0; from < tokens.size();) {
      int to = from;
      while (!tokens.get(to).text.equals(";")) to++;
      List<Token> tell = tokens.subList(from, to);
      from = to + 1;
      switch (tell.get(0).text) {
        case "place": newName(tell.get(1), names, faults); t.places.add(tell.get(1).text); break;
        case "road": {
          Road r = new Road();
          r.a = placeOf(tell.get(1), t, faults);
          r.b = placeOf(tell.get(2), t, faults);
          if (r.a == r.b && r.a >= 0) faults.add(new int[] {3, tell.get(2).place});
          r.hours = number(tell.get(3), 1, 9, faults);
          for (Token k : tell.subList(4, tell.size())) { r.field |= k.text.equals("field"); r.gate |= k.text.equals("gate"); }
          t.roads.add(r);
          break;
        }
        case "ghost": {
          Ghost g = new Ghost();
          newName(tell.get(1), names, faults);
          g.from = placeOf(tell.get(2), t, faults);
          g.to = placeOf(tell.get(3), t, faults);
          if (g.from == g.to && g.from >= 0) faults.add(new int[] {3, tell.get(3).place});
          g.kind = number(tell.get(4), 0, 9, faults);
          g.carries = number(tell.get(5), 0, 99, faults);
          g.every = number(tell.get(6), 1, 9, faults);
          t.ghosts.add(g);
          break;
        }
        case "owes": t.owes = law(tell); break;
        case "fears": t.fears = law(tell); break;
        case "bears": t.bears = law(tell); break;
        case "fog": t.fog = number(tell.get(1), 0, 100, faults); break;
        case "lamp":
          t.sheets = number(tell.get(1), 0, 100, faults);
          t.errs = number(tell.get(2), 0, 100, faults);
          break;
        default: t.seed = number(tell.get(1), 0, 9999, faults);
      }
    }
    return firstOf(faults);
  }
  private static void newName(Token k, List<String> names, List<int[]> faults) {
    if (names.contains(k.text)) faults.add(new int[] {3, k.place});
    names.add(k.text);
  }
  private static int placeOf(Token k, Text t, List<int[]> faults) {
    int i = t.places.indexOf(k.text);
    if (i < 0) faults.add(new int[] {4, k.place});
    return i;
  }
  private static int number(Token k, int low, int high, List<int[]> faults) {
    if (k.number() < low || k.number() > high) faults.add(new int[] {5, k.place});
    return k.number();
  }
  private static List<String> law(List<Token> tell) {
    List<String> row = new ArrayList<>();
    for (Token k : tell.subList(2, tell.size())) row.add(k.text);
    return row;
  }

  // ---- laws: worked out from their words each time ----
  private static final class ByZero extends RuntimeException { private static final long serialVersionUID = 1; }

  private final class Reckon {
    final List<String> words; final State s; final int ghost, road; final List<String> allowed;
    int at = 0;
    Reckon(List<String> words, State s, int ghost, int road, List<String> allowed) {
      this.words = words; this.s = s; this.ghost = ghost; this.road = road; this.allowed = allowed;
    }
    boolean is(String w) { return at < words.size() && words.get(at).equals(w); }
    int law() {
      try {
        while (is("if")) {
          at++;
          int a = sum(); at++;
          int b = sum(); at++;
          if (a < b) return sum();
          while (!is("else")) at++;
          at++;
        }
        return sum();
      } catch (ByZero z) { return 0; }
    }
    int sum() {
      int v = product();
      while (is("+") || is("-")) v = words.get(at++).equals("+") ? v + product() : v - product();
      return v;
    }
    int product() {
      int v = unit();
      while (is("*") || is("/")) {
        boolean times = words.get(at++).equals("*");
        int u = unit();
        if (!times && u == 0) throw new ByZero();
        v = times ? v * u : (int) ((long) v / u);
      }
      return v;
    }
    int unit() {
      String w = words.get(at++);
      if (w.equals("(")) { int v = sum(); at++; return v; }
      if (Character.isDigit(w.charAt(0))) return Integer.parseInt(w);
      if (!allowed.contains(w)) return 0;
      switch (w) {
        case "kind": return text.ghosts.get(ghost).kind;
        case "carries": return text.ghosts.get(ghost).carries;
        case "every": return text.ghosts.get(ghost).every;
        case "foggy": return fog(s) ? 1 : 0;
        case "rate": return s.rateOf(road);
        case "hours": return text.roads.get(road).hours;
        case "wear": return s.wear[road];
        case "which": return road;
        default: return s.night;
      }
    }
  }
  private static final List<String> ALL =
      List.of("kind", "carries", "every", "foggy", "rate", "hours", "wear", "which", "night");

  private boolean fog(State s) { return lot(100, s.seed, s.night) < text.fog; }
  private static int lot(int n, int seed, int which) {
    int h = seed;
    for (int it : new int[] {73, which}) {
      h = (h ^ it) * 1103515245 + 12345;
      h = h ^ (h >>> 15);
    }
    return (h >>> 1) % n;
  }
  private int owes(State s, int g, int r) { return clamp(new Reckon(text.owes, s, g, r, ALL).law(), 99); }
  private int fears(State s, int g, int r) { return clamp(new Reckon(text.fears, s, g, r, ALL).law(), 99); }
  private boolean broken(State s, int r) {
    return s.wear[r] >= clamp(new Reckon(text.bears, s, 0, r, List.of("hours", "which", "night")).law(), 999);
  }
  private static int clamp(int v, int high) { return v < 0 ? 0 : v > high ? high : v; }
  private int costOf(State s, int g, int r) {
    Road d = text.roads.get(r);
    return d.hours + (s.gate[r] ? owes(s, g, r) : 0) + (d.field ? fears(s, g, r) : 0);
  }

  // ---- ways: all of them are tried ----
  private static final class Found { List<Integer> roads; int cost; }

  private Found wayOf(State s, int g) {
    int[] costs = new int[text.roads.size()];
    boolean[] shut = new boolean[costs.length];
    for (int r = 0; r < costs.length; r++) { costs[r] = costOf(s, g, r); shut[r] = broken(s, r); }
    Found best = new Found();
    Ghost ghost = text.ghosts.get(g);
    tryAll(ghost.from, ghost.to, costs, shut, new ArrayList<>(), 1 << ghost.from, best);
    return best.roads == null ? null : best;
  }
  private void tryAll(int at, int to, int[] costs, boolean[] shut, List<Integer> gone, int been, Found best) {
    if (at == to) {
      int cost = 0;
      for (int r : gone) cost += costs[r];
      // Tried in the order of the roads' numbers, so that of alike ones the first is kept.
      if (best.roads == null || cost < best.cost) { best.roads = new ArrayList<>(gone); best.cost = cost; }
      return;
    }
    for (int r = 0; r < costs.length; r++) {
      Road d = text.roads.get(r);
      if (shut[r] || d.a != at && d.b != at) continue;
      int next = d.a == at ? d.b : d.a;
      if ((been >> next & 1) != 0) continue;
      gone.add(r);
      tryAll(next, to, costs, shut, gone, been | 1 << next, best);
      gone.remove(gone.size() - 1);
    }
  }

  private boolean hisNight(int g, int night) { return night % text.ghosts.get(g).every == 0; }

  private void night(State s) {
    for (int g = 0; g < text.ghosts.size(); g++) {
      if (!s.there[g] || !hisNight(g, s.night)) continue;
      Found way = wayOf(s, g);
      if (way == null) { s.stayed[g]++; continue; }
      int[] owed = new int[text.roads.size()];
      for (int r : way.roads) owed[r] = s.gate[r] ? owes(s, g, r) : 0;
      int carries = text.ghosts.get(g).carries;
      for (int r : way.roads) {
        if (s.gate[r]) {
          int pay = Math.min(carries, owed[r]);
          carries -= pay; s.till += pay; s.paidOn[r] += pay; s.paid[g] += pay;
        }
        if (text.roads.get(r).field) { s.seenOn[r]++; s.seen[g]++; }
        s.wear[r]++;
      }
      s.went[g]++;
    }
    s.night++;
  }
  private State after(State s, int n) {
    State t = s.copy();
    for (int i = 0; i < n; i++) night(t);
    return t;
  }

  private boolean isRoad(int r) { return r >= 0 && r < text.roads.size(); }
  private boolean isGhost(int g) { return g >= 0 && g < text.ghosts.size(); }
  private static boolean in(int v, int low, int high) { return v >= low && v <= high; }
  private static int sum(int[] row) { int v = 0; for (int x : row) v += x; return v; }

  // ---- the face ----
  int road(int r, int what) {
    if (!isRoad(r)) return NONE;
    Road d = text.roads.get(r);
    switch (what) {
      case 0: return d.a;
      case 1: return d.b;
      case 2: return d.hours;
      case 3: return d.field ? 1 : 0;
      case 4: return now.gate[r] ? 1 : 0;
      case 5: return now.wear[r];
      case 6: return broken(now, r) ? 1 : 0;
      case 7: return now.seenOn[r];
      case 8: return now.paidOn[r];
      default: return NONE;
    }
  }
  int ghost(int g, int what) {
    if (!isGhost(g)) return NONE;
    Ghost d = text.ghosts.get(g);
    switch (what) {
      case 0: return d.kind;
      case 1: return d.carries;
      case 2: return d.every;
      case 3: return hisNight(g, now.night) ? 1 : 0;
      case 4: return now.paid[g];
      case 5: return now.went[g];
      case 6: return now.stayed[g];
      case 7: return now.seen[g];
      default: return NONE;
    }
  }
  int cost(int g, int r) { return isGhost(g) && isRoad(r) ? costOf(now, g, r) : NONE; }
  int way(int g, int what) {
    if (!isGhost(g) || !in(what, 0, 3)) return NONE;
    Found way = wayOf(now, g);
    if (way == null) return -2;
    if (what == 0) return way.cost;
    if (what == 2) return way.roads.size();
    int hours = 0, owed = 0;
    for (int r : way.roads) { hours += text.roads.get(r).hours; if (now.gate[r]) owed += owes(now, g, r); }
    return what == 1 ? hours : Math.min(owed, text.ghosts.get(g).carries);
  }
  int wayAt(int g, int i) {
    if (!isGhost(g) || i < 0) return NONE;
    Found way = wayOf(now, g);
    return way == null ? -2 : i < way.roads.size() ? way.roads.get(i) : NONE;
  }
  private void note() { undos.add(now.copy()); if (undos.size() > 40) undos.remove(0); }
  boolean gate(int r, boolean up) {
    if (!isRoad(r) || now.gate[r] == up) return false;
    note();
    now.gate[r] = up;
    return true;
  }
  boolean rate(int rate) {
    if (!in(rate, 0, 9) || rate == now.rate) return false;
    note();
    now.rate = rate;
    return true;
  }
  int mend(int r) {
    if (!isRoad(r)) return NONE;
    if (now.wear[r] == 0 || now.till < now.wear[r]) return -2;
    note();
    now.till -= now.wear[r];
    now.wear[r] = 0;
    return now.till;
  }
  int nights(int n) {
    if (!in(n, 0, 30)) return NONE;
    if (n > 0) { note(); now = after(now, n); }
    return now.night;
  }
  boolean undo() {
    if (undos.isEmpty()) return false;
    now = undos.remove(undos.size() - 1);
    return true;
  }
  int tonight(int what) {
    State t = after(now, 1);
    switch (what) {
      case 0: return t.till - now.till;
      case 1: return sum(t.went) - sum(now.went);
      case 2: return sum(t.seenOn) - sum(now.seenOn);
      default: return NONE;
    }
  }
  int put(int gates, int nights, int what) {
    if (!in(gates, 1, 3) || !in(nights, 1, 9) || !in(what, 0, 1)) return NONE;
    if (text.roads.size() < gates) return -2;
    int most = -1, which = -1;
    for (int b = 0; b < 1 << text.roads.size(); b++) {
      if (Integer.bitCount(b) != gates) continue;
      State s = now.copy();
      s.setGates(b);
      int grown = after(s, nights).till - now.till;
      if (grown > most) { most = grown; which = b; }
    }
    return what == 0 ? most : which;
  }
  private int freeIn(State s) {
    int free = 0;
    for (int g = 0; g < text.ghosts.size(); g++) {
      Found way = wayOf(s, g);
      if (way != null && way.roads.stream().noneMatch(r -> s.gate[r])) free |= 1 << g;
    }
    return free;
  }
  int free() { return freeIn(now); }
  int stop(int what) {
    if (!in(what, 0, 1)) return NONE;
    for (int n = 0; n <= text.roads.size(); n++)
      for (int b = 0; b < 1 << text.roads.size(); b++) {
        if (Integer.bitCount(b) != n) continue;
        State s = now.copy();
        s.setGates(b);
        if (freeIn(s) == 0) return what == 0 ? n : b;
      }
    throw new IllegalStateException();
  }
  int saves(int g) {
    if (!isGhost(g)) return NONE;
    Found way = wayOf(now, g);
    if (way == null) return -2;
    State s = now.copy();
    s.setGates(0);
    return way.cost - wayOf(s, g).cost;
  }
  int pays(int g, int n) { return isGhost(g) && in(n, 0, 60) ? after(now, n).paid[g] - now.paid[g] : NONE; }
  int seen(int r, int n) { return isRoad(r) && in(n, 0, 60) ? after(now, n).seenOn[r] - now.seenOn[r] : NONE; }
  int busiest(int n, int what) {
    if (!in(n, 0, 60) || !in(what, 0, 1)) return NONE;
    if (text.roads.isEmpty()) return -2;
    State t = after(now, n);
    int most = -1, which = -1;
    for (int r = 0; r < text.roads.size(); r++)
      if (t.wear[r] - now.wear[r] > most) { most = t.wear[r] - now.wear[r]; which = r; }
    return what == 0 ? which : most;
  }
  int best(int n, int what) {
    if (!in(n, 1, 30) || !in(what, 0, 1)) return NONE;
    int most = -1, which = -1;
    for (int rate = 0; rate <= 9; rate++) {
      State s = now.copy();
      s.rate = rate;
      int grown = after(s, n).till - now.till;
      if (grown > most) { most = grown; which = rate; }
    }
    return what == 0 ? which : most;
  }
  int keepers(int n, int i) {
    if (!in(n, 1, 9) || i < -1) return NONE;
    int[][] even = new int[4][4], odd = new int[4][4];
    for (int a = 0; a < 4; a++)
      for (int b = 0; b < 4; b++) {
        State s = now.copy();
        s.evenRate = a; s.oddRate = b;
        State t = after(s, n);
        for (int r = 0; r < text.roads.size(); r++) {
          int took = t.paidOn[r] - now.paidOn[r];
          if (r % 2 == 0) even[a][b] += took; else odd[a][b] += took;
        }
      }
    List<Integer> rests = new ArrayList<>();
    for (int a = 0; a < 4; a++)
      for (int b = 0; b < 4; b++) {
        boolean rest = true;
        for (int x = 0; x < 4; x++) rest &= even[x][b] <= even[a][b] && odd[a][x] <= odd[a][b];
        if (rest) rests.add(10 * a + b);
      }
    return i == -1 ? rests.size() : i < rests.size() ? rests.get(i) : NONE;
  }
  int breaks(int r) {
    if (!isRoad(r)) return NONE;
    State t = now.copy();
    for (int n = 0; n <= 200; n++) { if (broken(t, r)) return n; night(t); }
    return -2;
  }
  int first(int what) {
    if (!in(what, 0, 1)) return NONE;
    int soonest = 999, which = -1;
    State t = now.copy();
    boolean[] skip = new boolean[text.roads.size()];
    for (int n = 0; n <= 200; n++) {
      for (int r = 0; r < skip.length; r++) {
        if (!broken(t, r)) continue;
        if (n == 0) skip[r] = true;
        else if (!skip[r] && n < soonest) { soonest = n; which = r; }
      }
      night(t);
    }
    return which < 0 ? -2 : what == 0 ? which : soonest;
  }
  int meets(int g, int o) {
    if (!isGhost(g) || !isGhost(o) || g == o) return NONE;
    for (int n = now.night; n <= 99; n++) if (hisNight(g, n) && hisNight(o, n)) return n;
    return -2;
  }
  int cutOff(int g) {
    if (!isGhost(g)) return NONE;
    State t = now.copy();
    for (int n = 0; n <= 200; n++) { if (wayOf(t, g) == null) return n; night(t); }
    return -2;
  }
  int year(int n, int s) {
    if (!in(n, 0, 60) || !in(s, 1, 20)) return NONE;
    int all = 0;
    for (int i = 0; i < s; i++) {
      State t = now.copy();
      t.seed = text.seed + i;
      all += after(t, n).till - now.till;
    }
    return all;
  }
  int sheet(boolean dead, boolean below) {
    int right = 100 - text.errs;
    int sheet = text.sheets * (dead ? text.errs : right), not = (100 - text.sheets) * (dead ? right : text.errs);
    if (sheet == 0) return below ? 1 : 0;
    int all = sheet + not;
    for (int d = all; d >= 1; d--) if (all % d == 0 && sheet % d == 0) return (below ? all : sheet) / d;
    throw new IllegalStateException();
  }
  int tell(int r, int night, boolean seen) {
    if (told.size() == 20 || !isRoad(r) || !in(night, 0, 30) || !text.roads.get(r).field) return NONE;
    told.add(new int[] {r, night, seen ? 1 : 0});
    return told.size() - 1;
  }
  int forget() { int n = told.size(); told.clear(); return n; }

  private boolean[][] seenOf(int set) {
    boolean[][] seen = new boolean[31][text.roads.size()];
    State s = begin();
    for (int g = 0; g < s.there.length; g++) s.there[g] = (set >> g & 1) != 0;
    for (int n = 0; n <= 30; n++) {
      int[] before = s.seenOn.clone();
      night(s);
      for (int r = 0; r < before.length; r++) seen[n][r] = s.seenOn[r] > before[r];
    }
    return seen;
  }
  private List<Integer> sets(int k) {
    List<Integer> sets = new ArrayList<>();
    for (int set = 0; set < 1 << text.ghosts.size(); set++) {
      boolean[][] seen = k == 0 ? null : seenOf(set);
      boolean so = true;
      for (int[] d : told.subList(0, k)) so &= seen[d[1]][d[0]] == (d[2] == 1);
      if (so) sets.add(set);
    }
    return sets;
  }
  int who(int k, int i) {
    if (!in(k, 0, told.size()) || i < -1) return NONE;
    List<Integer> sets = sets(k);
    return i == -1 ? sets.size() : i < sets.size() ? sets.get(i) : NONE;
  }
  int watch(int k, int night) {
    if (!in(k, 0, told.size()) || !in(night, 0, 30)) return NONE;
    List<Integer> sets = sets(k);
    int fewest = 999, which = -2;
    int[] shows = new int[text.roads.size()];
    for (int set : sets) { boolean[][] seen = seenOf(set); for (int r = 0; r < shows.length; r++) if (seen[night][r]) shows[r]++; }
    for (int r = 0; r < shows.length; r++) {
      int worst = Math.max(shows[r], sets.size() - shows[r]);
      if (text.roads.get(r).field && worst < fewest) { fewest = worst; which = r; }
    }
    return which;
  }
  boolean hold(int slot) { if (!in(slot, 0, 2)) return false; slots[slot] = now.copy(); return true; }
  boolean restore(int slot) {
    if (!in(slot, 0, 2) || slots[slot] == null) return false;
    now = slots[slot].copy();
    undos.clear();
    return true;
  }
  int count(int what) {
    switch (what) {
      case 0: return text.places.size();
      case 1: return text.roads.size();
      case 2: return text.ghosts.size();
      case 3: return now.night;
      case 4: return now.rate;
      case 5: return now.till;
      case 6: return now.gateBits();
      case 7: return fog(now) ? 1 : 0;
      case 8: return tape.length();
      case 9: return undos.size();
      case 10: return told.size();
      case 11: { int n = 0; for (State s : slots) if (s != null) n++; return n; }
      case 12: { int b = 0; for (int r = 0; r < text.roads.size(); r++) if (broken(now, r)) b |= 1 << r; return b; }
      default: return NONE;
    }
  }
}
