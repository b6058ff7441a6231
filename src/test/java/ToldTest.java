/** Promises 30 to 37: sounds, wrecks and words. */
public final class ToldTest {
  private static final Check CHECK = new Check();

  public static void main(String[] args) {
    promise30Sound();
    promise31High();
    promise32Wreck();
    promise33InOrder();
    promise34OutOfOrder();
    promise35Misheard();
    promise36Apart();
    promise37Chains();
    CHECK.end("told");
  }

  private static void promise30Sound() {
    SeaWithStairs x = new SeaWithStairs();
    CHECK.due("step -2", x.sound(-2, 1), -2);
    CHECK.due("step 9", x.sound(9, 1), -2);
    CHECK.due("s -1", x.sound(0, -1), -2);
    CHECK.due("s 100", x.sound(0, 100), -2);
    CHECK.due("none told", x.about(5), 0);
    CHECK.due("a step that isn't there", x.sound(8, 99), 1);
    for (int i = 2; i <= 8; i++) {
      CHECK.due("sound " + i, x.sound(0, 0), i);
    }
    CHECK.due("the ninth", x.sound(0, 0), -2);
    CHECK.due("none any more", x.sound(-1, 5), 0);
    CHECK.due("none", x.about(5), 0);
    CHECK.due("may be all", x.high(8, true), 99);
    CHECK.due("one anew", x.sound(0, 3), 1);
    CHECK.due("no act", x.about(4), 0);
  }

  private static void promise31High() {
    SeaWithStairs x = new SeaWithStairs();
    CHECK.due("least of all", x.high(0, false), 1);
    CHECK.due("greatest of all", x.high(8, true), 99);
    CHECK.due("step 9", x.high(9, true), -1);
    CHECK.due("step -1", x.high(-1, false), -1);
    for (int s = 0; s <= 99; s++) {
      x.sound(-1, 0);
      x.sound(4, s);
      int least = -1;
      int most = -1;
      for (int high = 1; high <= 99; high++) {
        int beats = 0;
        while ((beats + 1) * (beats + 1) <= 10 * high) {
          beats++;
        }
        if (beats == s) {
          least = least == -1 ? high : least;
          most = high;
        }
      }
      CHECK.due("least by " + s, x.high(4, false), least);
      CHECK.due("greatest by " + s, x.high(4, true), most);
    }
    x.sound(-1, 0);
    x.sound(0, 20);
    CHECK.due("40", x.high(0, false), 40);
    CHECK.due("44", x.high(0, true), 44);
    CHECK.due("another step", x.high(1, true), 99);
    x.sound(0, 20);
    CHECK.due("the same again", x.high(0, false), 40);
    x.sound(0, 21);
    CHECK.due("none", x.high(0, false), -1);
    CHECK.due("none", x.high(0, true), -1);
  }

  private static void promise32Wreck() {
    SeaWithStairs x = new SeaWithStairs();
    CHECK.due("-2", x.wreck(-2), -2);
    CHECK.due("100", x.wreck(100), -2);
    CHECK.due("0", x.wreck(0), 1);
    CHECK.due("99", x.wreck(99), 2);
    for (int i = 3; i <= 10; i++) {
      CHECK.due("wreck " + i, x.wreck(5), i);
    }
    CHECK.due("the eleventh", x.wreck(5), -2);
    CHECK.due("ten", x.about(6), 10);
    CHECK.due("none any more", x.wreck(-1), 0);
    CHECK.due("none", x.about(6), 0);
    CHECK.due("none in order", x.inOrder(-1), 0);
  }

  private static SeaWithStairs wrecks(int... reigns) {
    SeaWithStairs x = new SeaWithStairs();
    for (int reign : reigns) {
      x.wreck(reign);
    }
    return x;
  }

  private static void order(SeaWithStairs x, int... reigns) {
    CHECK.due("how many", x.inOrder(-1), reigns.length);
    for (int i = 0; i < reigns.length; i++) {
      CHECK.due("reign " + i, x.inOrder(i), reigns[i]);
    }
    CHECK.due("none behind", x.inOrder(reigns.length), -2);
    CHECK.due("-2", x.inOrder(-2), -2);
  }

  private static void promise33InOrder() {
    order(wrecks());
    order(wrecks(5, 3, 4, 9, 1, 7), 3, 4, 7);
    order(wrecks(5, 5, 5), 5);
    order(wrecks(0, 1, 2, 3, 4, 5, 6, 7, 8, 99), 0, 1, 2, 3, 4, 5, 6, 7, 8, 99);
    order(wrecks(9, 8, 7), 7);
    order(wrecks(2, 9, 1, 8), 1, 8);
    order(wrecks(4, 5, 1, 6, 2, 3), 1, 2, 3);
    order(wrecks(4, 5, 1, 6, 2), 4, 5, 6);
    order(wrecks(3, 4, 3, 5, 1), 3, 4, 5);
    order(wrecks(1, 9, 2, 8, 3, 7), 1, 2, 3, 7);
  }

  private static void promise34OutOfOrder() {
    CHECK.due("none", wrecks().outOfOrder(), 0);
    CHECK.due("seven", wrecks(5, 3, 4, 9, 1, 7).outOfOrder(), 7);
    CHECK.due("like ones are in order", wrecks(5, 5, 5).outOfOrder(), 0);
    CHECK.due("all", wrecks(9, 8, 7, 6, 5, 4, 3, 2, 1, 0).outOfOrder(), 45);
    CHECK.due("none", wrecks(0, 1, 2).outOfOrder(), 0);
  }

  private static void promise35Misheard() {
    SeaWithStairs x = new SeaWithStairs();
    CHECK.due("like ones", x.misheard(2, 2), -2);
    CHECK.due("-2", x.misheard(-2, 2), -2);
    CHECK.due("10", x.misheard(10, 2), -2);
    CHECK.due("other -1", x.misheard(2, -1), -2);
    CHECK.due("other 10", x.misheard(2, 10), -2);
    CHECK.due("none told", x.about(7), 0);
    CHECK.due("0 and 9", x.misheard(0, 9), 1);
    for (int i = 2; i <= 15; i++) {
      CHECK.due("misheard " + i, x.misheard(9, 0), i);
    }
    CHECK.due("the sixteenth", x.misheard(1, 2), -2);
    CHECK.due("none any more", x.misheard(-1, -1), 0);
    CHECK.due("all are apart", x.apart(10), 1023);
  }

  private static SeaWithStairs misheard(int... words) {
    SeaWithStairs x = new SeaWithStairs();
    for (int i = 0; i < words.length; i += 2) {
      x.misheard(words[i], words[i + 1]);
    }
    return x;
  }

  private static void promise36Apart() {
    SeaWithStairs x = misheard(0, 1, 1, 2);
    CHECK.due("n 0", x.apart(0), -1);
    CHECK.due("n 11", x.apart(11), -1);
    CHECK.due("1", x.apart(1), 1);
    CHECK.due("2", x.apart(2), 1);
    CHECK.due("3", x.apart(3), 5);
    CHECK.due("4", x.apart(4), 13);
    CHECK.due("10", x.apart(10), 1021);
    // 0 or 3 with one of 1 and 2: of like ones the lowest.
    CHECK.due("the lowest", misheard(0, 1, 0, 2, 3, 1, 3, 2).apart(4), 6);
    CHECK.due("a ring of five", misheard(0, 1, 1, 2, 2, 3, 3, 4, 4, 0).apart(5), 5);
    CHECK.due("all of four", misheard(3, 2, 2, 1, 1, 0, 3, 0, 3, 1, 2, 0).apart(4), 1);
  }

  private static void promise37Chains() {
    SeaWithStairs x = misheard(0, 1, 1, 2);
    CHECK.due("n 0", x.chains(0), -1);
    CHECK.due("n 11", x.chains(11), -1);
    CHECK.due("1", x.chains(1), 1);
    CHECK.due("3", x.chains(3), 1);
    CHECK.due("4", x.chains(4), 2);
    CHECK.due("10", x.chains(10), 8);
    CHECK.due("none", misheard().chains(10), 10);
    CHECK.due("one long one", misheard(0, 9, 9, 1, 1, 8, 8, 2, 2, 7, 7, 3, 3, 6, 6, 4, 4, 5).chains(10), 1);
    CHECK.due("by these n alone", misheard(0, 9, 9, 1).chains(9), 9);
    CHECK.due("by all", misheard(0, 9, 9, 1).chains(10), 8);
    CHECK.due("one two", misheard(0, 1).chains(2), 1);
    CHECK.due("two twos", misheard(0, 1, 2, 3).chains(4), 2);
    CHECK.due("two other twos", misheard(2, 3, 0, 1).chains(10), 8);
    CHECK.due("the most twos",
        misheard(8, 9, 7, 8, 6, 7, 5, 6, 4, 5, 3, 4, 2, 3, 1, 2, 0, 1, 0, 9, 0, 8, 0, 7, 0, 6, 0, 5, 0, 4).chains(10), 1);
    CHECK.due("a ring", misheard(0, 1, 1, 2, 2, 0, 2, 0).chains(3), 1);
  }
}
