import java.nio.charset.StandardCharsets;
import java.util.ArrayList;
import java.util.List;

/** Texts for tests: how they come onto the tape, and texts made by chance. */
final class Texts {
  private static final String[] VARS =
      {"kind", "carries", "every", "foggy", "rate", "hours", "wear", "which", "night"};

  private Texts() { }

  /** The words of twenty bytes each that feed a text, blanks behind it. */
  static List<int[]> words(String text) {
    byte[] bytes = text.getBytes(StandardCharsets.ISO_8859_1);
    List<int[]> rows = new ArrayList<>();
    for (int from = 0; from < bytes.length; from += 20) {
      int[] row = new int[5];
      for (int i = 0; i < 20; i++) {
        int b = from + i < bytes.length ? bytes[from + i] & 255 : 32;
        row[i / 4] = row[i / 4] << 8 | b;
      }
      rows.add(row);
    }
    return rows;
  }

  /** Puts a text of 2,000 bytes at most behind the tape, exactly. */
  static void put(GhostPike pike, String text) {
    for (int[] w : words(text)) pike.feed(w[0], w[1], w[2], w[3], w[4]);
    pike.back((20 - text.length() % 20) % 20);
  }

  static GhostPike read(String text) {
    GhostPike pike = new GhostPike();
    put(pike, text);
    int fault = pike.read();
    if (fault != 0) throw new IllegalArgumentException("fault " + fault + " at " + pike.place() + " of " + text);
    return pike;
  }

  static String unit(Random73 r, int depth) {
    if (depth > 0 && r.once(3)) return "(" + sum(r, depth - 1) + ")";
    return r.once(2) ? r.of(VARS) : "" + (r.once(8) ? r.below(10000) : r.below(12));
  }
  static String sum(Random73 r, int depth) {
    StringBuilder s = new StringBuilder(unit(r, depth));
    for (int i = r.below(4); i > 0; i--) s.append(" ").append("+-*/".charAt(r.below(4))).append(" ").append(unit(r, depth));
    return s.toString();
  }
  static String law(Random73 r) {
    StringBuilder s = new StringBuilder("= ");
    for (int i = r.once(2) ? 0 : r.below(4); i > 0; i--)
      s.append("if ").append(sum(r, 1)).append(" < ").append(sum(r, 1)).append(" then ").append(sum(r, 2)).append(" else ");
    return s.append(sum(r, 2)).toString();
  }

  /** A text without a FAULT. */
  static String good(Random73 r) {
    StringBuilder s = new StringBuilder();
    int places = r.from(2, 8), roads = r.from(1, 12), ghosts = r.from(1, 7);
    for (int i = 0; i < places; i++) s.append("place p").append((char) ('a' + i)).append("; ");
    for (int i = 0; i < roads; i++) {
      int a = r.below(places), b = (a + 1 + r.below(places - 1)) % places;
      s.append("road p").append((char) ('a' + a)).append(" p").append((char) ('a' + b)).append(' ').append(r.once(3) ? r.from(1, 9) : r.from(1, 3));
      if (r.once(2)) s.append(" field");
      if (r.once(2)) s.append(" gate");
      s.append("; ");
    }
    for (int i = 0; i < ghosts; i++) {
      int a = r.below(places), b = (a + 1 + r.below(places - 1)) % places;
      s.append("ghost g").append((char) ('a' + i)).append(" p").append((char) ('a' + a)).append(" p").append((char) ('a' + b));
      s.append(' ').append(r.below(10)).append(' ').append(r.once(3) ? r.below(8) : r.below(100)).append(' ').append(r.once(3) ? r.from(1, 9) : r.from(1, 3)).append("; ");
    }
    int before = s.length();
    if (!r.once(4)) s.append("owes ").append(r.once(2) ? law(r) : r.of(new String[] {"= rate * kind", "= rate * 2", "= rate * rate / 2 + wear", "= if wear < 3 then rate else 9", "= carries / 9 * rate"})).append("; ");
    if (!r.once(4)) s.append("fears ").append(r.once(2) ? law(r) : r.of(new String[] {"= foggy * 6", "= 2 + wear / 2", "= kind - 3", "= if foggy < 1 then 1 else 8"})).append("; ");
    if (!r.once(3)) s.append("bears ").append(r.once(3) ? law(r) : r.of(new String[] {"= 9", "= hours * 5", "= which + 4", "= 30 - night", "= 60", "= 12 + night / 2"})).append("; ");
    if (!r.once(3)) s.append("fog ").append(r.once(6) ? 100 : r.below(101)).append("; ");
    if (!r.once(3)) s.append("lamp ").append(r.once(4) ? r.below(2) * 100 : r.below(101)).append(' ').append(r.once(4) ? r.below(2) * 100 : r.below(101)).append("; ");
    if (!r.once(3)) s.append("seed ").append(r.below(10000)).append("; ");
    if (s.length() > 2000) s.setLength(before);
    return s.toString();
  }

  /** A good text with a few places of it spoilt. */
  static String spoilt(Random73 r) {
    StringBuilder s = new StringBuilder(good(r));
    for (int i = r.from(1, 3); i > 0 && s.length() > 0; i--) {
      int at = r.below(s.length());
      switch (r.below(7)) {
        case 0: s.deleteCharAt(at); break;
        case 1: s.insert(at, r.of("; = + - * / < ( ) 0 7 99 12345 a pa pb ga . A".split(" "))); break;
        case 2: s.setCharAt(at, (char) r.below(256)); break;
        case 3: s.setLength(at); break;
        case 4: s.insert(at, " " + r.of("place road field gate ghost owes fears bears fog lamp seed if then else kind night".split(" ")) + " "); break;
        case 5: {
          int end = Math.min(s.length(), at + r.below(20));
          s.insert(at, s.substring(at, end));
          break;
        }
        default: s.append(r.of(new String[] {"place pa;", "place zz;", "road pa pb 1;", "ghost zz pa pb 1 1 1;", "road pa pa 0;", "fog 101;", "lamp 3 101;", "owes = ((((((1))))));", "bears = (((((((1)))))));"}));
      }
    }
    if (s.length() > 2000) s.setLength(2000);
    return s.toString();
  }
}
