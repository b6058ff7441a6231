/** Counts and prints the answers that are not as due. */
final class Check {
  private int wrong;
  private int asked;

  void due(String call, long got, long want) {
    asked++;
    if (got != want) {
      wrong++;
      if (wrong <= 40) {
        System.out.println(call + " answered " + got + ", due is " + want);
      }
    }
  }

  void due(String call, boolean got, boolean want) {
    due(call, got ? 1 : 0, want ? 1 : 0);
  }

  boolean allAsDue() {
    return wrong == 0;
  }

  void end(String what) {
    System.out.println(what + ": " + asked + " answers, " + wrong + " not as due");
    if (wrong != 0) {
      System.exit(1);
    }
  }

  /** Puts a text on the tape of x, whatever is on it. */
  static int tape(SeaWithStairs x, String text) {
    x.end(0);
    for (int from = 0; from < text.length(); from += 20) {
      int[] fours = new int[5];
      for (int i = 0; i < 20; i++) {
        int sign = from + i < text.length() ? text.charAt(from + i) : 0;
        fours[i / 4] |= sign << 24 - 8 * (i % 4);
      }
      x.feed(fours[0], fours[1], fours[2], fours[3], fours[4]);
    }
    return x.end(text.length());
  }

  /** Tells a text: its number, or NONE. */
  static int text(SeaWithStairs x, String text) {
    tape(x, text);
    return x.text();
  }
}
