/** Promises 15, 16, 40, 41: centuries, what is taken back, and the image. */
public final class ActsTest {
  private static final Check CHECK = new Check();

  public static void main(String[] args) {
    promise15Centuries();
    centuriesAtTheLastHour();
    promise16Undo();
    undoOfEachAct();
    undoKeepsWhatWasTold();
    undoOfAFullBook();
    centuriesOfOne();
    backAndToldAnew();
    promise40And41();
    imageAndActs();
    CHECK.end("acts");
  }

  private static SeaWithStairs threeSteps() {
    SeaWithStairs x = new SeaWithStairs();
    x.step(40, 2, 50, 10);
    x.step(30, 1, 20, 0);
    x.step(20, 0, 5, 4);
    return x;
  }

  private static void promise15Centuries() {
    SeaWithStairs x = new SeaWithStairs();
    CHECK.due("without steps", x.centuries(0, 1), -1);
    x = threeSteps();
    CHECK.due("without ships", x.centuries(0, 1), -1);
    x.ship(10, 0, 2);
    x.ship(10, 2, 0);
    CHECK.due("seed -1", x.centuries(-1, 1), -1);
    CHECK.due("seed 10000", x.centuries(10000, 1), -1);
    CHECK.due("n 0", x.centuries(0, 0), -1);
    CHECK.due("n 41", x.centuries(0, 41), -1);
    CHECK.due("X", x.is(3), 83);
    CHECK.due("no act", x.about(4), 0);
    // x is 83: 83 mod 6 is 5, an hour.
    CHECK.due("an hour", x.centuries(0, 1), 1);
    CHECK.due("X", x.is(3), 24510);
    CHECK.due("passages", x.book(-1, 0), 2);
    CHECK.due("one act", x.about(4), 1);
    // x is 85 (mod 6: 1; mod 3: 1; mod 30: 25).
    CHECK.due("raised", x.centuries(1, 1), 1);
    CHECK.due("sill", x.ofStep(1, 1), 25);
    CHECK.due("X", x.is(3), 25096);
    CHECK.due("the same, an act too", x.centuries(1, 1), 1);
    CHECK.due("acts", x.about(4), 3);
    // x is 87 (mod 6: 3; mod 2: 1; mod 3: 0): ship 1 is bound to 0 already. x is 93 (3; 1; 0). x is 99. 105.
    x.bind(1, 2);
    CHECK.due("bound", x.centuries(2, 1), 1);
    CHECK.due("goal", x.ofShip(1, 2), 0);
    // x is 89 (mod 6: 5) then 89 * 293 + 191 = 26268 (mod 6: 0; mod 3: 0; mod 200: 68).
    int water = x.foretoldStep(1, 0, 0);
    CHECK.due("an hour and a flood", x.centuries(3, 2), 2);
    CHECK.due("flooded", x.ofStep(0, 2), water + 69);
    CHECK.due("X", x.is(3), (26268 * 293 + 191) % 30313);
    // x is 10081 = 83 + 2 * 4999 (mod 6: 1), 20081 = 83 + 2 * 9999 (mod 6: 5).
    CHECK.due("the greatest seed", x.centuries(9999, 1), 3);
    CHECK.due("X", x.is(3), (20081 * 293 + 191) % 30313);
    CHECK.due("the most draws are one act", x.centuries(7, 40) >= 3, true);
    CHECK.due("acts", x.about(4), 8);

    SeaWithStairs y = new SeaWithStairs();
    y.step(1, 1, 1, 1);
    y.step(1, 1, 1, 1);
    y.ship(1, 0, 1);
    y.hour(1);
    // A seed whose second x has 2 mod 6 and is even: step 0 is mended.
    int seed = 0;
    while (second(seed) % 6 != 2 || second(seed) % 2 != 0 || (seed * 2 + 83) % 6 != 1) {
      seed++;
    }
    CHECK.due("worn", y.ofStep(0, 4), 1);
    y.centuries(seed, 2);
    CHECK.due("mended", y.ofStep(0, 4), 0);
  }

  private static int second(int seed) {
    return ((seed * 2 + 83) * 293 + 191) % 30313;
  }

  private static void centuriesAtTheLastHour() {
    SeaWithStairs x = threeSteps();
    for (int i = 0; i < 166; i++) {
      x.hour(60);
    }
    x.hour(39);
    x.ship(10, 0, 2);
    CHECK.due("9999 stays", x.centuries(0, 1), 9999);
    CHECK.due("nothing passes", x.ofShip(0, 1), 0);
    CHECK.due("X goes on", x.is(3), 24510);
    CHECK.due("taken back", x.undo(), 29);
    CHECK.due("X", x.is(3), 83);
    CHECK.due("an hour more", x.foretoldShip(60, 0, 0), 2);
  }

  private static void promise16Undo() {
    SeaWithStairs x = threeSteps();
    CHECK.due("none", x.undo(), -1);
    x.hour(31);
    CHECK.due("the latest 30", x.about(4), 30);
    for (int left = 29; left >= 0; left--) {
      CHECK.due("one back", x.undo(), left);
      CHECK.due("hour", x.is(0), left + 1);
    }
    CHECK.due("none", x.undo(), -1);
    CHECK.due("hour", x.is(0), 1);
    x.hour(60);
    x.undo();
    x.undo();
    CHECK.due("flooded", x.flood(0, 1), x.ofStep(0, 2));
    CHECK.due("one in their place", x.undo(), 28);
    CHECK.due("hour", x.is(0), 59);
  }

  private static void undoOfEachAct() {
    SeaWithStairs x = threeSteps();
    x.ship(10, 0, 2);
    x.ship(6, 2, 0);
    int[] first = seen(x);
    x.flood(0, 20);
    int[] flooded = seen(x);
    x.raise(1, 5);
    int[] raised = seen(x);
    x.hour(2);
    int[] passed = seen(x);
    x.mend(0);
    int[] mended = seen(x);
    x.bind(0, 1);
    int[] bound = seen(x);
    x.centuries(4444, 40);
    x.undo();
    same("centuries", seen(x), bound);
    x.undo();
    same("bound", seen(x), mended);
    x.undo();
    same("mended", seen(x), passed);
    x.undo();
    x.undo();
    same("hours", seen(x), raised);
    x.undo();
    same("raised", seen(x), flooded);
    CHECK.due("all", x.undo(), 0);
    same("flooded", seen(x), first);
  }

  /** All that acts change; asks little enough for 512 calls. */
  private static int[] seen(SeaWithStairs x) {
    int[] all = new int[160];
    int at = 0;
    for (int i = 0; i < 3; i++) {
      for (int what = 1; what < 5; what++) {
        all[at++] = x.ofStep(i, what);
      }
    }
    for (int i = 0; i < 2; i++) {
      for (int what = 1; what < 4; what++) {
        all[at++] = x.ofShip(i, what);
      }
    }
    for (int what = 0; what < 4; what++) {
      all[at++] = x.is(what);
    }
    int passages = x.book(-1, 0);
    all[at++] = passages;
    for (int i = 0; i < passages; i++) {
      for (int what = 0; what < 3; what++) {
        all[at++] = x.book(i, what);
      }
    }
    return all;
  }

  private static void same(String what, int[] got, int[] want) {
    for (int i = 0; i < got.length; i++) {
      CHECK.due(what + " taken back, " + i, got[i], want[i]);
    }
  }

  private static void undoKeepsWhatWasTold() {
    SeaWithStairs x = new SeaWithStairs();
    x.step(5, 0, 10, 6);
    x.hour(1);
    x.step(6, 0, 20, 7);
    x.ship(3, 0, 1);
    x.wreck(4);
    Check.text(x, "takes 5;");
    x.by(0);
    x.flood(1, 9);
    x.hour(1);
    CHECK.due("it went", x.ofShip(0, 1), 1);
    CHECK.due("the hour is back", x.undo(), 2);
    CHECK.due("the flood is back", x.undo(), 1);
    CHECK.due("the first hour is back", x.undo(), 0);
    CHECK.due("steps", x.about(0), 2);
    CHECK.due("water as told", x.ofStep(1, 2), 20);
    CHECK.due("fish as told", x.ofStep(1, 3), 7);
    CHECK.due("worn as told", x.ofStep(0, 4), 0);
    CHECK.due("the ship as told", x.ofShip(0, 1), 0);
    CHECK.due("paid as told", x.ofShip(0, 3), 0);
    CHECK.due("water of the first as ahead", x.ofStep(0, 2), 10);
    CHECK.due("what rules stays", x.about(3), 0);
    CHECK.due("wrecks stay", x.about(6), 1);
    CHECK.due("out is back", x.is(1), 0);
  }

  private static void undoOfAFullBook() {
    SeaWithStairs x = threeSteps();
    x.ship(10, 0, 2);
    x.ship(6, 2, 0);
    for (int i = 0; i < 11; i++) {
      x.bind(0, 2 - i % 2 * 2);
      x.bind(1, i % 2 * 2);
      x.hour(2);
    }
    CHECK.due("full", x.book(-1, 0), 40);
    int[] then = seen(x);
    x.bind(0, 0);
    x.bind(1, 2);
    x.hour(1);
    x.centuries(1, 40);
    x.undo();
    x.undo();
    x.undo();
    x.undo();
    same("a full book", seen(x), then);
  }

  private static void centuriesOfOne() {
    SeaWithStairs x = new SeaWithStairs();
    x.step(1, 1, 0, 1);
    x.ship(1, 0, 0);
    CHECK.due("one step, one ship", x.centuries(0, 2), 1);
    CHECK.due("flooded by 1 and 110", x.ofStep(0, 2), 111);
    CHECK.due("raised to 85 mod 30", x.centuries(1, 1), 1);
    CHECK.due("sill", x.ofStep(0, 1), 25);
  }

  private static void backAndToldAnew() {
    SeaWithStairs x = new SeaWithStairs();
    x.step(1, 1, 1, 1);
    x.image();
    x.step(1, 1, 1, 1);
    x.step(1, 1, 1, 1);
    x.ship(1, 0, 2);
    x.hour(2);
    CHECK.due("worn", x.ofStep(1, 4), 1);
    CHECK.due("paid", x.ofShip(0, 3), 2);
    x.back();
    x.step(2, 2, 2, 2);
    x.step(2, 2, 2, 2);
    x.ship(2, 1, 0);
    CHECK.due("not worn", x.ofStep(1, 4), 0);
    CHECK.due("nothing paid", x.ofShip(0, 3), 0);
    CHECK.due("weight", x.ofShip(0, 0), 2);
    CHECK.due("high", x.ofStep(1, 0), 2);
  }

  private static void promise40And41() {
    SeaWithStairs x = threeSteps();
    x.ship(10, 0, 2);
    x.hour(1);
    Check.text(x, "takes 5;");
    x.by(0);
    x.sound(0, 20);
    x.wreck(3);
    x.wreck(2);
    x.misheard(1, 2);
    CHECK.due("image", x.image(), 1);
    int[] then = seen(x);
    x.hour(3);
    x.ship(9, 1, 1);
    x.step(1, 1, 1, 1);
    Check.text(x, "takes 6;");
    x.by(1);
    x.sound(-1, 0);
    x.sound(4, 4);
    x.sound(0, 21);
    x.wreck(-1);
    x.wreck(1);
    x.wreck(9);
    x.misheard(-1, 0);
    x.misheard(0, 1);
    x.misheard(0, 1);
    x.centuries(5, 5);
    Check.text(x, "hour;");
    x.feed(0, 0, 0, 0, 0);
    CHECK.due("back", x.back(), 1);
    same("image", seen(x), then);
    int[] due = {3, 1, 1, 0, 1, 1, 2, 1, 20};
    for (int what = 0; what < due.length; what++) {
      CHECK.due("image about " + what, x.about(what), due[what]);
    }
    CHECK.due("the latest fault is no part of it", x.fault(0), 1);
    CHECK.due("what rules", x.voyage(1, 0, 1, 1, -2), 5);
    CHECK.due("sounds", x.high(0, true), 44);
    CHECK.due("wrecks", x.outOfOrder(), 1);
    CHECK.due("words", x.apart(3), 3);
    CHECK.due("reign", x.inOrder(0), 2);
    Check.text(x, "takes 7;");
    x.by(1);
    CHECK.due("a text in place of the lost one", x.voyage(1, 0, 1, 1, -2), 7);
    x.hour(1);
    CHECK.due("the image stays", x.back(), 1);
    same("image", seen(x), then);
    CHECK.due("and its text", x.played(0), -1);
    CHECK.due("what rules", x.voyage(1, 0, 1, 1, -2), 5);
  }

  private static void imageAndActs() {
    SeaWithStairs x = threeSteps();
    x.flood(0, 1);
    x.flood(0, 2);
    x.image();
    x.undo();
    x.undo();
    x.flood(1, 7);
    x.back();
    CHECK.due("its acts", x.about(4), 2);
    CHECK.due("one", x.undo(), 1);
    CHECK.due("water", x.ofStep(0, 2), 51);
    CHECK.due("two", x.undo(), 0);
    CHECK.due("water", x.ofStep(0, 2), 50);
    CHECK.due("none", x.undo(), -1);
    x.hour(60);
    x.image();
    x.hour(60);
    x.back();
    for (int left = 29; left >= 0; left--) {
      CHECK.due("back by one", x.undo(), left);
      CHECK.due("hour", x.is(0), left + 30);
    }
  }
}
