/** Numbers that look like chance and are the same at every run. */
final class Random73 {
  private long state;
  Random73(long seed) { state = seed * 0x9E3779B97F4A7C15L + 73; }
  int below(int n) {
    state ^= state << 13; state ^= state >>> 7; state ^= state << 17;
    return (int) ((state >>> 11) % n);
  }
  int from(int low, int high) { return low + below(high - low + 1); }
  boolean once(int in) { return below(in) == 0; }
  <T> T of(T[] row) { return row[below(row.length)]; }
}
