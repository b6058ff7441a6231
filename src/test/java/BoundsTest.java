import java.util.List;

/**
 * The bounds of each argument of each call: the last values that are taken and the first ones that are not, on both
 * sides and far beyond them; and that a refused call changes nothing that can be seen, then or later.
 */
public final class BoundsTest {
  private static final Check CHECK = new Check();
  private static final int MIN = Integer.MIN_VALUE;
  private static final int MAX = Integer.MAX_VALUE;

  /** A new object at each call, always in the same state. */
  interface Sea {
    SeaWithStairs make();
  }

  interface Call {
    long on(SeaWithStairs x, int value);
  }

  private final Sea sea;
  /** What can be seen of the sea, and comes of it, if nothing is called. */
  private final List<Long> untouched;

  private BoundsTest(Sea itsSea) {
    sea = itsSea;
    untouched = Seen.all(sea.make());
  }

  public static void main(String[] args) {
    BoundsTest some = new BoundsTest(Seas::some);
    some.promises2And3Telling();
    some.promises4To8Texts(2, 12);
    some.promises9To13ByHand();
    some.promises14And15Done();
    some.promises17To20Asked(3, 3, Seas.some().book(-1, 0));
    some.promises21To23Foretold(3, 3);
    some.promise24Voyage();
    some.promises25To29(3, 3);
    some.promises30To35Told(true);
    some.promises33And36To42(3);
    BoundsTest full = new BoundsTest(Seas::full);
    full.promises4To8Texts(4, 300);
    full.promises17To20Asked(9, 7, 40);
    full.promises21To23Foretold(9, 7);
    full.promises25To29(9, 7);
    full.promises30To35Told(false);
    full.promises33And36To42(9);
    full.nothingMoreIsTaken();
    withoutAny();
    withOneStep();
    setsToHaul();
    CHECK.end("bounds");
  }

  /** The value is refused: the answer is so, and all is as if it hadn't been called. */
  private void refused(String what, long refusal, Call call, int value) {
    SeaWithStairs x = sea.make();
    CHECK.due(what + " " + value, call.on(x, value), refusal);
    CHECK.due(what + " " + value + " changes nothing", Seen.all(x).equals(untouched), true);
  }

  /** It is no refusal, but changes nothing either. */
  private void idle(String what, long answer, Call call) {
    refused(what, answer, call, 0);
  }

  private void taken(String what, long refusal, Call call, int value) {
    CHECK.due(what + " " + value + " is taken", call.on(sea.make(), value) != refusal, true);
  }

  /** From least to most the values are taken, all others refused. */
  private void bounds(String what, long refusal, int least, Call call, int most) {
    taken(what, refusal, call, least);
    taken(what, refusal, call, most);
    int[] beyond = {least - 1, least - 2, most + 1, most + 2, least - 256, most + 256, least - 65536, most + 65536, MIN,
        MIN + 1, MAX - 1, MAX};
    for (int value : beyond) {
      refused(what, refusal, call, value);
    }
  }

  /** As bounds, of a call that only asks: what is taken changes nothing either. */
  private void asked(String what, long refusal, int least, Call call, int most) {
    bounds(what, refusal, least, call, most);
    for (int value : new int[] {least, most}) {
      SeaWithStairs x = sea.make();
      call.on(x, value);
      CHECK.due(what + " " + value + " only asks", Seen.all(x).equals(untouched), true);
    }
  }

  private static int bit(boolean is) {
    return is ? 1 : 0;
  }

  private void promises2And3Telling() {
    bounds("step, high", -1, 1, (x, v) -> x.step(v, 2, 3, 4), 99);
    bounds("step, sill", -1, 0, (x, v) -> x.step(1, v, 3, 4), 99);
    bounds("step, water", -1, 0, (x, v) -> x.step(1, 2, v, 4), 999);
    bounds("step, fish", -1, 0, (x, v) -> x.step(1, 2, 3, v), 999);
    bounds("ship, weight", -1, 1, (x, v) -> x.ship(v, 1, 2), 99);
    bounds("ship, on", -1, 0, (x, v) -> x.ship(1, v, 2), 2);
    bounds("ship, goal", -1, 0, (x, v) -> x.ship(1, 1, v), 2);
  }

  private void promises4To8Texts(int texts, int bytes) {
    bounds("end", -1, 0, (x, v) -> x.end(v), bytes);
    bounds("by", 0, -1, (x, v) -> bit(x.by(v)), texts - 1);
    bounds("played", -2, 0, (x, v) -> x.played(v), texts - 1);
    // Without a fault its place is NONE, as is the answer to others.
    for (int what : new int[] {-2, -1, 2, 3, MIN, MAX}) {
      refused("fault, what", -1, (x, v) -> x.fault(v), what);
    }
  }

  private void promises9To13ByHand() {
    bounds("hour", -1, 1, (x, v) -> x.hour(v), 60);
    bounds("flood, step", -1, 0, (x, v) -> x.flood(v, 5), 2);
    bounds("flood, n", -1, 1, (x, v) -> x.flood(1, v), 999);
    bounds("raise, step", 0, 0, (x, v) -> bit(x.raise(v, 50)), 2);
    bounds("raise, sill", 0, 0, (x, v) -> bit(x.raise(1, v)), 99);
    bounds("mend", -1, 0, (x, v) -> x.mend(v), 1);
    SeaWithStairs x = sea.make();
    for (int step = 0; step < 3; step++) {
      int sill = x.ofStep(step, 1);
      int its = step;
      refused("raise to what is so, step " + step, 0, (y, v) -> bit(y.raise(its, v)), sill);
      taken("raise by one, step " + step, 0, (y, v) -> bit(y.raise(its, v)), sill + 1);
    }
    for (int ship = 0; ship < 3; ship++) {
      for (int goal = 0; goal < 3; goal++) {
        int its = ship;
        if (x.ofShip(ship, 2) == goal) {
          refused("bind to what is so, ship " + ship, 0, (y, v) -> bit(y.bind(its, v)), goal);
        } else {
          taken("bind, ship " + ship, 0, (y, v) -> bit(y.bind(its, v)), goal);
        }
      }
    }
    for (int other : new int[] {-2, -1, 3, 4, 32, MIN, MAX}) {
      refused("bind, ship", 0, (y, v) -> bit(y.bind(v, 0)), other);
      refused("bind, ship", 0, (y, v) -> bit(y.bind(v, v)), other);
      refused("bind, goal", 0, (y, v) -> bit(y.bind(1, v)), other);
    }
  }

  private void promises14And15Done() {
    bounds("centuries, seed", -1, 0, (x, v) -> x.centuries(v, 3), 9999);
    bounds("centuries, n", -1, 1, (x, v) -> x.centuries(7, v), 40);
  }

  private void promises17To20Asked(int steps, int ships, int booked) {
    asked("ofStep, step", -1, 0, (x, v) -> x.ofStep(v, 0), steps - 1);
    asked("ofStep, what", -1, 0, (x, v) -> x.ofStep(0, v), 6);
    asked("ofShip, ship", -1, 0, (x, v) -> x.ofShip(v, 0), ships - 1);
    asked("ofShip, what", -1, 0, (x, v) -> x.ofShip(0, v), 3);
    asked("is", -2, 0, (x, v) -> x.is(v), 3);
    asked("book, i", -2, -1, (x, v) -> x.book(v, 0), booked - 1);
    asked("book, what", -2, 0, (x, v) -> x.book(0, v), 2);
    asked("book, what of the latest", -2, 0, (x, v) -> x.book(booked - 1, v), 2);
  }

  private void promises21To23Foretold(int steps, int ships) {
    for (int what = 0; what < 2; what++) {
      int its = what;
      asked("foretoldShip, n", -1, 1, (x, v) -> x.foretoldShip(v, 0, its), 60);
      asked("foretoldShip, ship", -1, 0, (x, v) -> x.foretoldShip(5, v, its), ships - 1);
      asked("foretoldStep, n", -1, 1, (x, v) -> x.foretoldStep(v, 0, its), 60);
      asked("foretoldStep, step", -1, 0, (x, v) -> x.foretoldStep(5, v, its), steps - 1);
    }
    asked("foretoldShip, what", -1, 0, (x, v) -> x.foretoldShip(5, 0, v), 1);
    asked("foretoldStep, what", -1, 0, (x, v) -> x.foretoldStep(5, 0, v), 1);
    asked("comes", -1, 0, (x, v) -> x.comes(v), ships - 1);
  }

  private void promise24Voyage() {
    asked("voyage, weight", -100, 1, (x, v) -> x.voyage(v, 0, 2, 5, -2), 99);
    asked("voyage, from", -100, 0, (x, v) -> x.voyage(1, v, 2, 5, -2), 1);
    asked("voyage, to", -100, 1, (x, v) -> x.voyage(1, 0, v, 5, -2), 2);
    asked("voyage, to from the middle", -100, 2, (x, v) -> x.voyage(1, 1, v, 5, -2), 2);
    asked("voyage, n for two risers", -100, 2, (x, v) -> x.voyage(1, 0, 2, v, -2), 48);
    asked("voyage, n for one riser", -100, 1, (x, v) -> x.voyage(1, 1, 2, v, -2), 48);
    asked("voyage, i of two risers", -100, -2, (x, v) -> x.voyage(1, 0, 2, 5, v), 1);
    asked("voyage, i of one riser", -100, -2, (x, v) -> x.voyage(1, 0, 1, 5, v), 0);
    refused("voyage, to itself", -100, (x, v) -> x.voyage(1, v, v, 5, -2), 0);
    refused("voyage, to itself", -100, (x, v) -> x.voyage(1, v, v, 5, -2), 2);
    refused("voyage, too few", -100, (x, v) -> x.voyage(1, 0, 2, v, -1), 1);
    refused("voyage, too few", -100, (x, v) -> x.voyage(1, 0, 2, v, 0), 1);
  }

  private void promises25To29(int steps, int ships) {
    asked("hauling, step", -2, 0, (x, v) -> x.hauling(v, 1, 2, -1), steps - 2);
    asked("hauling, up", -2, 1, (x, v) -> x.hauling(0, v, 0, -1), ships == 7 ? 0b1111000 : 0b111);
    asked("hauling, ship", -2, -1, (x, v) -> x.hauling(0, 1, 6, v), 2);
    asked("hauling, ship of those up alone", -2, -1, (x, v) -> x.hauling(0, 3, 0, v), 1);
    asked("thing, weight", -1, 1, (x, v) -> x.thing(v, 0), 99);
    asked("thing, step", -1, 0, (x, v) -> x.thing(1, v), steps - 1);
    asked("upThere, weight", -1, 1, (x, v) -> x.upThere(v, 0), 99);
    asked("upThere, step", -1, 0, (x, v) -> x.upThere(1, v), steps - 1);
    asked("toRaise", -1, 0, (x, v) -> x.toRaise(v), steps - 1);
    asked("states, k", -1000000000, 0, (x, v) -> x.states(v, -1), 999);
    asked("states, k of a step", -1000000000, 0, (x, v) -> x.states(v, 0), 999);
    asked("states, step", -1000000000, -1, (x, v) -> x.states(5, v), steps - 1);
  }

  private void promises30To35Told(boolean room) {
    if (room) {
      bounds("sound, step", -2, -1, (x, v) -> x.sound(v, 20), 8);
      bounds("sound, s", -2, 0, (x, v) -> x.sound(8, v), 99);
      bounds("wreck", -2, -1, (x, v) -> x.wreck(v), 99);
      bounds("misheard, one", -2, -1, (x, v) -> x.misheard(v, 5), 9);
      bounds("misheard, other", -2, 0, (x, v) -> x.misheard(5, v), 9);
    }
    asked("high, step", -1, 0, (x, v) -> x.high(v, false), 8);
    asked("high, step", -1, 0, (x, v) -> x.high(v, true), 8);
    for (int word = 0; word < 10; word++) {
      refused("misheard, like ones", -2, (x, v) -> x.misheard(v, v), word);
    }
    refused("misheard, no other", -2, (x, v) -> x.misheard(0, v), -1);
  }

  private void promises33And36To42(int steps) {
    SeaWithStairs y = sea.make();
    int most = y.inOrder(-1);
    asked("inOrder", -2, -1, (x, v) -> x.inOrder(v), most - 1);
    asked("apart", -1, 1, (x, v) -> x.apart(v), 10);
    asked("chains", -1, 1, (x, v) -> x.chains(v), 10);
    asked("waiting", -1, 0, (x, v) -> x.waiting(v, true), steps - 1);
    asked("waiting", -1, 0, (x, v) -> x.waiting(v, false), steps - 1);
    asked("about", -2, 0, (x, v) -> x.about(v), 8);
    idle("run only asks", y.run(false), (x, v) -> x.run(false));
    idle("run, last, only asks", y.run(true), (x, v) -> x.run(true));
    idle("outOfOrder only asks", y.outOfOrder(), (x, v) -> x.outOfOrder());
    idle("fault only asks", y.fault(0), (x, v) -> x.fault(0));
    idle("its place only asks", y.fault(1), (x, v) -> x.fault(1));
  }

  /** Where all is full, what is fine else is refused. */
  private void nothingMoreIsTaken() {
    refused("a tenth step", -1, (x, v) -> x.step(v, 1, 1, 1), 1);
    refused("an eighth ship", -1, (x, v) -> x.ship(v, 0, 1), 1);
    refused("twenty bytes beyond 300", -1, (x, v) -> x.feed(v, v, v, v, v), 0x20202020);
    refused("a fifth text", -1, (x, v) -> x.text(), 0);
    for (int n : new int[] {1, 2, 59, 60}) {
      refused("hours beyond 9999", -1, (x, v) -> x.hour(v), n);
    }
    for (int step = 0; step < 9; step++) {
      refused("a ninth sound", -2, (x, v) -> x.sound(v, 9), step);
    }
    for (int reign : new int[] {0, 50, 99}) {
      refused("an eleventh wreck", -2, (x, v) -> x.wreck(v), reign);
    }
    for (int one = 0; one < 9; one++) {
      refused("a sixteenth misheard", -2, (x, v) -> x.misheard(v, 9), one);
    }
    refused("a script of hours beyond 9999", 0, (x, v) -> x.played(v), 2);
    refused("a script of a tenth step", 0, (x, v) -> x.played(v), 0);
    refused("a script of an eighth ship", 0, (x, v) -> x.played(v), 1);
    idle("a script of laws alone", -1, (x, v) -> x.played(3));
  }

  private static void withoutAny() {
    BoundsTest none = new BoundsTest(SeaWithStairs::new);
    for (int i : new int[] {0, 1, 8, MIN, MAX}) {
      none.refused("ship", -1, (x, v) -> x.ship(1, v, v), i);
      none.refused("end", -1, (x, v) -> x.end(v), Math.max(1, i));
      none.refused("fault", -1, (x, v) -> x.fault(v), i);
      none.refused("by", 0, (x, v) -> bit(x.by(v)), i);
      none.refused("flood", -1, (x, v) -> x.flood(v, 1), i);
      none.refused("raise", 0, (x, v) -> bit(x.raise(v, 1)), i);
      none.refused("mend", -1, (x, v) -> x.mend(v), i);
      none.refused("bind", 0, (x, v) -> bit(x.bind(v, v)), i);
      none.refused("played", -2, (x, v) -> x.played(v), i);
      none.refused("centuries", -1, (x, v) -> x.centuries(v, 1), i);
      none.refused("undo", -1, (x, v) -> x.undo(), i);
      none.refused("ofStep", -1, (x, v) -> x.ofStep(v, 0), i);
      none.refused("ofShip", -1, (x, v) -> x.ofShip(v, 0), i);
      none.refused("book", -2, (x, v) -> x.book(v, 0), i);
      none.refused("foretoldShip", -1, (x, v) -> x.foretoldShip(1, v, 0), i);
      none.refused("foretoldStep", -1, (x, v) -> x.foretoldStep(1, v, 0), i);
      none.refused("comes", -1, (x, v) -> x.comes(v), i);
      none.refused("voyage", -100, (x, v) -> x.voyage(1, v, v + 1, 9, -2), i);
      none.refused("hauling", -2, (x, v) -> x.hauling(v, 1, 0, -1), i);
      none.refused("thing", -1, (x, v) -> x.thing(1, v), i);
      none.refused("upThere", -1, (x, v) -> x.upThere(1, v), i);
      none.refused("toRaise", -1, (x, v) -> x.toRaise(v), i);
      none.refused("states", -1000000000, (x, v) -> x.states(0, v), i);
      none.refused("inOrder", -2, (x, v) -> x.inOrder(v), i);
      none.refused("waiting", -1, (x, v) -> x.waiting(v, true), i);
    }
    none.refused("states of all", -1000000000, (x, v) -> x.states(v, -1), 0);
    none.refused("run", -1, (x, v) -> x.run(false), 0);
    none.refused("run, last", -1, (x, v) -> x.run(true), 0);
    none.idle("none in order", 0, (x, v) -> x.inOrder(-1));
    none.idle("none out of order", 0, (x, v) -> x.outOfOrder());
    none.idle("no passages", 0, (x, v) -> x.book(-1, 0));
    none.idle("no text rules", 1, (x, v) -> bit(x.by(-1)));
    none.idle("no bytes", 0, (x, v) -> x.end(0));
    none.idle("the first image", 0, (x, v) -> x.image());
    none.idle("back to it", 0, (x, v) -> x.back());
    none.idle("no sounds any more", 0, (x, v) -> x.sound(-1, 0));
    none.idle("no wrecks any more", 0, (x, v) -> x.wreck(-1));
    none.idle("none misheard any more", 0, (x, v) -> x.misheard(-1, 0));
  }

  private static SeaWithStairs oneStep() {
    SeaWithStairs x = new SeaWithStairs();
    x.step(9, 1, 25, 5);
    x.ship(3, 0, 0);
    return x;
  }

  /** It has no riser. */
  private static void withOneStep() {
    BoundsTest one = new BoundsTest(BoundsTest::oneStep);
    one.refused("mend", -1, (x, v) -> x.mend(v), 0);
    one.refused("hauling", -2, (x, v) -> x.hauling(v, 1, 0, -1), 0);
    one.refused("voyage", -100, (x, v) -> x.voyage(1, 0, v, 9, -2), 0);
    one.refused("voyage", -100, (x, v) -> x.voyage(1, 0, v, 9, -2), 1);
    one.refused("bind", 0, (x, v) -> bit(x.bind(0, v)), 0);
    one.refused("bind", 0, (x, v) -> bit(x.bind(0, v)), 1);
    one.refused("ship", -1, (x, v) -> x.ship(1, 0, v), 1);
    one.idle("it is there", 0, (x, v) -> x.comes(0));
    one.idle("all are there", 0, (x, v) -> x.run(false));
    one.idle("none is bound", 0, (x, v) -> x.waiting(0, true));
    one.idle("none is bound", 0, (x, v) -> x.waiting(0, false));
    CHECK.due("it passes none", oneStep().hour(60), 0);
    CHECK.due("a thing is out", oneStep().thing(1, 0), 1);
  }

  /** All sets of seven ships, and some that aren't. */
  private static void setsToHaul() {
    for (int up = -3; up < 132; up++) {
      SeaWithStairs x = Seas.full();
      for (int down = -3; down < 132; down++) {
        boolean sets = up > 0 && up < 128 && down >= 0 && down < 128;
        boolean fine = sets && Integer.bitCount(up) <= 4 && Integer.bitCount(down) <= 4 && (up & down) == 0;
        CHECK.due("hauling up " + up + " down " + down, x.hauling(0, up, down, -1) != -2, fine);
      }
    }
  }
}
