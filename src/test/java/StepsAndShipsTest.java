/** Promises 1, 2, 3, 10, 11, 12, 13, 17, 18, 19, 38, 42: steps and ships, told and changed by hand. */
public final class StepsAndShipsTest {
  private static final Check CHECK = new Check();

  public static void main(String[] args) {
    promise1NewObject();
    promise2Step();
    promise3Ship();
    promise10Flood();
    promise11Raise();
    promise12Mend();
    promise13Bind();
    promise17OfStep();
    promise18OfShip();
    promise19Is();
    promise38Waiting();
    promise42About();
    CHECK.end("steps and ships");
  }

  private static void promise1NewObject() {
    SeaWithStairs x = new SeaWithStairs();
    CHECK.due("NONE", SeaWithStairs.NONE, -1);
    int[] abouts = {0, 0, 0, -1, 0, 0, 0, 0, 0};
    for (int what = 0; what < abouts.length; what++) {
      CHECK.due("new about " + what, x.about(what), abouts[what]);
    }
    CHECK.due("new hour", x.is(0), 0);
    CHECK.due("new out water", x.is(1), 0);
    CHECK.due("new out fish", x.is(2), 0);
    CHECK.due("new X", x.is(3), 83);
    CHECK.due("new fault", x.fault(0), -1);
    CHECK.due("new fault's place", x.fault(1), -1);
    CHECK.due("new book", x.book(-1, 0), 0);
    CHECK.due("new undo", x.undo(), -1);
    x.step(1, 2, 3, 4);
    x.ship(5, 0, 0);
    x.hour(3);
    x.wreck(3);
    CHECK.due("back to the first image", x.back(), 0);
    for (int what = 0; what < abouts.length; what++) {
      CHECK.due("first image about " + what, x.about(what), abouts[what]);
    }
    CHECK.due("an hour without steps", x.hour(1), 0);
    CHECK.due("hour then", x.is(0), 1);
  }

  private static void promise2Step() {
    SeaWithStairs x = new SeaWithStairs();
    CHECK.due("high 0", x.step(0, 0, 0, 0), -1);
    CHECK.due("high 100", x.step(100, 0, 0, 0), -1);
    CHECK.due("sill -1", x.step(1, -1, 0, 0), -1);
    CHECK.due("sill 100", x.step(1, 100, 0, 0), -1);
    CHECK.due("water -1", x.step(1, 0, -1, 0), -1);
    CHECK.due("water 1000", x.step(1, 0, 1000, 0), -1);
    CHECK.due("fish -1", x.step(1, 0, 0, -1), -1);
    CHECK.due("fish 1000", x.step(1, 0, 0, 1000), -1);
    CHECK.due("none told", x.about(0), 0);
    CHECK.due("the least", x.step(1, 0, 0, 0), 0);
    CHECK.due("the greatest", x.step(99, 99, 999, 999), 1);
    for (int i = 2; i < 9; i++) {
      CHECK.due("step " + i, x.step(10 + i, i, 20 + i, 30 + i), i);
    }
    CHECK.due("the tenth", x.step(1, 1, 1, 1), -1);
    CHECK.due("nine", x.about(0), 9);
    CHECK.due("high of the greatest", x.ofStep(1, 0), 99);
    CHECK.due("sill of the greatest", x.ofStep(1, 1), 99);
    CHECK.due("water of the greatest", x.ofStep(1, 2), 999);
    CHECK.due("fish of the greatest", x.ofStep(1, 3), 999);
    CHECK.due("high of the last", x.ofStep(8, 0), 18);
    CHECK.due("sill of the last", x.ofStep(8, 1), 8);
    CHECK.due("water of the last", x.ofStep(8, 2), 28);
    CHECK.due("fish of the last", x.ofStep(8, 3), 38);
    CHECK.due("telling is no act", x.about(4), 0);
  }

  private static void promise3Ship() {
    SeaWithStairs x = new SeaWithStairs();
    CHECK.due("without steps", x.ship(1, 0, 0), -1);
    x.step(1, 1, 1, 1);
    x.step(1, 1, 1, 1);
    CHECK.due("weight 0", x.ship(0, 0, 0), -1);
    CHECK.due("weight 100", x.ship(100, 0, 0), -1);
    CHECK.due("on a step not told", x.ship(1, 2, 0), -1);
    CHECK.due("on -1", x.ship(1, -1, 0), -1);
    CHECK.due("to a step not told", x.ship(1, 0, 2), -1);
    CHECK.due("to -1", x.ship(1, 0, -1), -1);
    CHECK.due("the lightest", x.ship(1, 0, 1), 0);
    CHECK.due("the heaviest", x.ship(99, 1, 0), 1);
    for (int i = 2; i < 7; i++) {
      CHECK.due("ship " + i, x.ship(i, 0, 0), i);
    }
    CHECK.due("the eighth", x.ship(1, 0, 0), -1);
    CHECK.due("seven", x.about(1), 7);
    CHECK.due("weight of the heaviest", x.ofShip(1, 0), 99);
    CHECK.due("where it is", x.ofShip(1, 1), 1);
    CHECK.due("its goal", x.ofShip(1, 2), 0);
    CHECK.due("what it paid", x.ofShip(1, 3), 0);
    CHECK.due("telling is no act", x.about(4), 0);
  }

  private static void promise10Flood() {
    SeaWithStairs x = new SeaWithStairs();
    CHECK.due("no step", x.flood(0, 1), -1);
    x.step(1, 1, 5, 7);
    CHECK.due("by 0", x.flood(0, 0), -1);
    CHECK.due("by 1000", x.flood(0, 1000), -1);
    CHECK.due("step -1", x.flood(-1, 1), -1);
    CHECK.due("step 1", x.flood(1, 1), -1);
    CHECK.due("no act", x.about(4), 0);
    CHECK.due("by 1", x.flood(0, 1), 6);
    CHECK.due("an act", x.about(4), 1);
    CHECK.due("water", x.ofStep(0, 2), 6);
    CHECK.due("fish stay", x.ofStep(0, 3), 7);
    CHECK.due("to the brim", x.flood(0, 999), 999);
    CHECK.due("and more", x.flood(0, 5), 999);
    CHECK.due("that too is an act", x.about(4), 3);
  }

  private static void promise11Raise() {
    SeaWithStairs x = new SeaWithStairs();
    CHECK.due("no step", x.raise(0, 1), false);
    x.step(1, 7, 5, 7);
    CHECK.due("sill -1", x.raise(0, -1), false);
    CHECK.due("sill 100", x.raise(0, 100), false);
    CHECK.due("step -1", x.raise(-1, 1), false);
    CHECK.due("it is so", x.raise(0, 7), false);
    CHECK.due("no act", x.about(4), 0);
    CHECK.due("to 0", x.raise(0, 0), true);
    CHECK.due("sill", x.ofStep(0, 1), 0);
    CHECK.due("to 99", x.raise(0, 99), true);
    CHECK.due("sill", x.ofStep(0, 1), 99);
    CHECK.due("acts", x.about(4), 2);
  }

  private static void promise12Mend() {
    SeaWithStairs x = new SeaWithStairs();
    CHECK.due("no step", x.mend(0), -1);
    x.step(1, 1, 1, 1);
    CHECK.due("none below", x.mend(0), -1);
    x.step(1, 1, 1, 1);
    CHECK.due("none below the last", x.mend(1), -1);
    CHECK.due("step -1", x.mend(-1), -1);
    CHECK.due("no act", x.about(4), 0);
    CHECK.due("a new rope", x.mend(0), 0);
    CHECK.due("that too is an act", x.about(4), 1);
    x.ship(1, 0, 1);
    x.hour(1);
    CHECK.due("worn", x.ofStep(0, 4), 1);
    CHECK.due("mended", x.mend(0), 1);
    CHECK.due("not worn", x.ofStep(0, 4), 0);
  }

  private static void promise13Bind() {
    SeaWithStairs x = new SeaWithStairs();
    x.step(1, 1, 1, 1);
    CHECK.due("no ship", x.bind(0, 0), false);
    x.step(1, 1, 1, 1);
    x.ship(1, 0, 1);
    CHECK.due("it is so", x.bind(0, 1), false);
    CHECK.due("no such step", x.bind(0, 2), false);
    CHECK.due("step -1", x.bind(0, -1), false);
    CHECK.due("no such ship", x.bind(1, 0), false);
    CHECK.due("ship -1", x.bind(-1, 0), false);
    CHECK.due("no act", x.about(4), 0);
    CHECK.due("bound", x.bind(0, 0), true);
    CHECK.due("goal", x.ofShip(0, 2), 0);
    CHECK.due("an act", x.about(4), 1);
  }

  private static void promise17OfStep() {
    SeaWithStairs x = new SeaWithStairs();
    CHECK.due("no step", x.ofStep(0, 0), -1);
    x.step(9, 2, 53, 6);
    x.step(8, 3, 30, 5);
    x.ship(4, 0, 1);
    x.ship(4, 1, 1);
    x.ship(4, 0, 1);
    int[] due = {9, 2, 53, 6, 0, 5, 33};
    for (int what = 0; what < due.length; what++) {
      CHECK.due("of step 0: " + what, x.ofStep(0, what), due[what]);
    }
    CHECK.due("ships on 1", x.ofStep(1, 5), 2);
    CHECK.due("no more water than the sill holds", x.ofStep(1, 6), 0);
    CHECK.due("what 7", x.ofStep(0, 7), -1);
    CHECK.due("what -1", x.ofStep(0, -1), -1);
    CHECK.due("step 2", x.ofStep(2, 0), -1);
    CHECK.due("step -1", x.ofStep(-1, 0), -1);
  }

  private static void promise18OfShip() {
    SeaWithStairs x = new SeaWithStairs();
    x.step(9, 2, 5, 6);
    CHECK.due("no ship", x.ofShip(0, 0), -1);
    x.step(8, 1, 30, 5);
    x.ship(4, 0, 1);
    x.hour(1);
    CHECK.due("weight", x.ofShip(0, 0), 4);
    CHECK.due("on", x.ofShip(0, 1), 1);
    CHECK.due("goal", x.ofShip(0, 2), 1);
    CHECK.due("paid", x.ofShip(0, 3), 2);
    CHECK.due("what 4", x.ofShip(0, 4), -1);
    CHECK.due("what -1", x.ofShip(0, -1), -1);
    CHECK.due("ship 1", x.ofShip(1, 0), -1);
    CHECK.due("ship -1", x.ofShip(-1, 0), -1);
  }

  private static void promise19Is() {
    SeaWithStairs x = new SeaWithStairs();
    x.step(9, 1, 30, 9);
    CHECK.due("an hour", x.hour(2), 0);
    CHECK.due("hour", x.is(0), 2);
    CHECK.due("water that went out", x.is(1), 20);
    CHECK.due("fish that went out", x.is(2), 6);
    CHECK.due("X", x.is(3), 83);
    CHECK.due("what 4", x.is(4), -2);
    CHECK.due("what -1", x.is(-1), -2);
  }

  private static void promise38Waiting() {
    SeaWithStairs x = new SeaWithStairs();
    CHECK.due("no step", x.waiting(0, true), -1);
    x.step(9, 1, 30, 9);
    x.step(9, 1, 30, 9);
    x.step(9, 1, 30, 9);
    x.ship(1, 1, 2);
    x.ship(1, 1, 0);
    x.ship(1, 1, 1);
    x.ship(1, 0, 2);
    x.ship(1, 1, 2);
    CHECK.due("down", x.waiting(1, true), 17);
    CHECK.due("up", x.waiting(1, false), 2);
    CHECK.due("down from the top", x.waiting(0, true), 8);
    CHECK.due("none", x.waiting(2, false), 0);
    CHECK.due("step 3", x.waiting(3, true), -1);
    CHECK.due("step -1", x.waiting(-1, false), -1);
  }

  private static void promise42About() {
    SeaWithStairs x = new SeaWithStairs();
    x.step(9, 1, 30, 9);
    x.step(9, 1, 30, 9);
    x.ship(1, 1, 0);
    Check.text(x, "takes 1;");
    Check.text(x, "takes 2;");
    Check.text(x, "takes 3;");
    x.by(2);
    x.flood(0, 1);
    x.flood(0, 1);
    x.flood(0, 1);
    x.flood(0, 1);
    for (int i = 0; i < 5; i++) {
      x.sound(i, i);
    }
    for (int i = 0; i < 6; i++) {
      x.wreck(i);
    }
    for (int i = 0; i < 7; i++) {
      x.misheard(i, i + 1);
    }
    x.feed(0, 0, 0, 0, 0);
    x.end(8);
    int[] due = {2, 1, 3, 2, 4, 5, 6, 7, 8};
    for (int what = 0; what < due.length; what++) {
      CHECK.due("about " + what, x.about(what), due[what]);
    }
    CHECK.due("about 9", x.about(9), -2);
    CHECK.due("about -1", x.about(-1), -2);
  }
}
