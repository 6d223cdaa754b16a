/** Counts answers that are due and those that are not, and types texts into a WhitePaw. */
final class Checks {
  private static final int SHOWN_AT_MOST = 40;
  private int passed;
  private int failed;

  void due(String call, long got, long want) {
    if (got == want) {
      passed++;
      return;
    }
    failed++;
    if (failed <= SHOWN_AT_MOST) System.out.println(call + " answered " + got + ", due is " + want);
  }

  void due(String claim, boolean holds) {
    due(claim, holds ? 1 : 0, 1);
  }

  /** Prints the count; leaves with 1 if an answer was not due, or if there was none at all. */
  void end(String name) {
    System.out.println(name + ": " + passed + " passed, " + failed + " failed");
    if (failed != 0 || passed == 0) System.exit(1);
  }

  /** Types a text, up to eight bytes a call; the last answer of type(). */
  static int type(WhitePaw x, String text) {
    int answer = 0;
    for (int from = 0; from < text.length(); from += 8) {
      int to = Math.min(from + 8, text.length());
      long v = 0;
      for (int i = from; i < to; i++) v = v << 8 | text.charAt(i);
      answer = x.type(v, to - from);
      if (answer < 0) throw new IllegalArgumentException("no room for: " + text);
    }
    return answer;
  }

  static WhitePaw house(String text) {
    WhitePaw x = new WhitePaw();
    type(x, text);
    if (x.house() < 0) throw new IllegalArgumentException("no house: " + text);
    return x;
  }

  /** The place of FAULT in a text; -1: it is a house. */
  static int fault(String text) {
    WhitePaw x = new WhitePaw();
    type(x, text);
    int answer = x.house();
    return answer >= 0 ? -1 : -10 - answer;
  }
}
