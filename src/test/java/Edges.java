import java.util.Arrays;

/** Edges that the document names, each with its promise and its sentence, and the answers that are due there. */
final class Edges {
  static final int NONE = -1;
  static final String PAIR = "place a;place b;";
  static final int[] FAR = {Integer.MIN_VALUE, Integer.MIN_VALUE + 1, -65536, -2, 99999, 1 << 16, Integer.MAX_VALUE - 1, Integer.MAX_VALUE};

  private final int[] edges = new int[39];
  private int wrong = 0;
  private int answers = 0;
  private int promise = 0;
  private String sentence = "";

  /** From here on, answers are about this edge. */
  void edge(int promise, String sentence) {
    this.promise = promise;
    this.sentence = sentence;
    edges[promise]++;
  }

  void due(String call, long got, long want) {
    answers++;
    if (got != want) {
      wrong++;
      System.out.println("promise " + promise + ", \"" + sentence + "\": " + call + " answered " + got + ", due is " + want);
    }
  }

  void due(String call, boolean got, boolean want) { due(call, got ? 1 : 0, want ? 1 : 0); }

  /** A text without a FAULT. */
  GhostPike good(String text) {
    fault(text, 0);
    return Texts.read(text);
  }

  /** A text with a FAULT at the '|', which is no part of it. */
  void fault(String marked, int fault) {
    int place = marked.indexOf('|');
    readAt(place < 0 ? marked : marked.substring(0, place) + marked.substring(place + 1), fault, place);
  }

  void readAt(String text, int fault, int place) {
    if (text.length() > 2000) throw new IllegalArgumentException("too long: " + text.length());
    GhostPike x = new GhostPike();
    Texts.put(x, text);
    due("read() of " + text, x.read(), fault);
    due("place() of " + text, x.place(), place);
    due("count(8) behind " + text, x.count(8), 0);
  }

  /** All of an object that can be seen without a change, but for what is on the tape. */
  static int[] sight(GhostPike x) {
    int[] row = new int[400];
    int n = 0;
    for (int i = 0; i <= 12; i++) row[n++] = i == 8 ? 0 : x.count(i);
    for (int r = 0; r < x.count(1); r++) for (int i = 0; i <= 8; i++) row[n++] = x.road(r, i);
    for (int g = 0; g < x.count(2); g++) for (int i = 0; i <= 7; i++) row[n++] = x.ghost(g, i);
    for (int g = 0; g < x.count(2); g++) row[n++] = x.way(g, 0);
    row[n++] = x.free();
    return Arrays.copyOf(row, n);
  }

  void same(String call, int[] before, GhostPike x) {
    int[] behind = sight(x);
    answers++;
    if (!Arrays.equals(before, behind)) {
      wrong++;
      System.out.println("promise " + promise + ", \"" + sentence + "\": " + call + " changed " + Arrays.toString(before)
          + " to " + Arrays.toString(behind));
    }
  }

  /** Every promise of these is to have an edge. */
  void end(int first, int last) {
    int all = 0;
    for (int i = first; i <= last; i++) {
      all += edges[i];
      if (edges[i] == 0) { wrong++; System.out.println("promise " + i + " has no edge"); }
    }
    System.out.println(wrong == 0 ? all + " edges hold, " + answers + " answers" : wrong + " answers are not as due");
    if (wrong != 0) System.exit(1);
  }

  static String often(String s, int n) { return s.repeat(n); }

  /** The form so many times, with a, b, c .. for '#'. */
  static String letters(String form, int n) {
    StringBuilder s = new StringBuilder();
    for (int i = 0; i < n; i++) s.append(form.replace('#', (char) ('a' + i)));
    return s.toString();
  }
}
