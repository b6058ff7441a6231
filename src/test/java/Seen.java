import java.util.ArrayList;
import java.util.List;

/** All that can be seen of an object, so that two of them can be compared; asks little enough for 512 calls. */
final class Seen {
  private Seen() {
  }

  /** What can be asked for; nothing is changed by it. */
  static List<Long> now(SeaWithStairs x) {
    List<Long> all = new ArrayList<>();
    for (int what = 0; what < 9; what++) {
      all.add((long) x.about(what));
    }
    for (int what = 0; what < 4; what++) {
      all.add((long) x.is(what));
    }
    all.add((long) x.fault(0));
    all.add((long) x.fault(1));
    addSteps(x, all);
    addShips(x, all);
    addBook(x, all);
    addTold(x, all);
    return all;
  }

  private static void addSteps(SeaWithStairs x, List<Long> all) {
    for (int step = 0; step < 9 && x.ofStep(step, 0) != -1; step++) {
      for (int what = 0; what < 7; what++) {
        all.add((long) x.ofStep(step, what));
      }
    }
    all.add((long) x.states(3, -1));
  }

  private static void addShips(SeaWithStairs x, List<Long> all) {
    for (int ship = 0; ship < 7 && x.ofShip(ship, 0) != -1; ship++) {
      for (int what = 0; what < 4; what++) {
        all.add((long) x.ofShip(ship, what));
      }
    }
  }

  /** How many passages, the eldest and the latest. */
  private static void addBook(SeaWithStairs x, List<Long> all) {
    int count = x.book(-1, 0);
    all.add((long) count);
    for (int what = 0; what < 3; what++) {
      all.add((long) x.book(0, what));
      all.add((long) x.book(count - 1, what));
    }
  }

  private static void addTold(SeaWithStairs x, List<Long> all) {
    for (int step = 0; step < 9; step++) {
      all.add((long) x.high(step, false));
    }
    int most = x.inOrder(-1);
    for (int i = 0; i < most; i++) {
      all.add((long) x.inOrder(i));
    }
    all.add((long) x.outOfOrder());
    all.add((long) x.apart(10));
    all.add((long) x.chains(10));
  }

  /** What can be seen now, and what then comes of the tape, of all that can be taken back, and of the image. */
  static List<Long> all(SeaWithStairs x) {
    List<Long> all = now(x);
    all.add((long) x.text());
    all.add((long) x.fault(0));
    all.add((long) x.fault(1));
    for (int left = 1; left >= 0 && all.size() < 1000; ) {
      left = x.undo();
      all.add((long) left);
      all.add((long) x.is(0));
      all.add((long) x.is(3));
    }
    all.add((long) x.back());
    all.addAll(now(x));
    return all;
  }
}
