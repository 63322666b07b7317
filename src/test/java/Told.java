/** Tells texts to an object under test. */
final class Told {
  private Told() { }

  /** Feeds a text, twenty bytes a call, and cuts the filling off. */
  static void say(LastLoads x, String text) {
    for (int i = 0; i < text.length(); i += 20) {
      int[] w = words(text, i);
      x.feed(w[0], w[1], w[2], w[3], w[4]);
    }
    x.end(text.length());
  }

  /** Twenty bytes of a text as five numbers, filled up with 0. */
  static int[] words(String text, int from) {
    int[] w = new int[5];
    for (int k = 0; k < 20; k++) w[k / 4] = w[k / 4] << 8 | (from + k < text.length() ? text.charAt(from + k) : 0);
    return w;
  }
}
