/** Promises 25, 26, 27, 28, 29: haulings, things that fall, sills to raise, states. */
public final class AsksTest {
  private static final Check CHECK = new Check();

  public static void main(String[] args) {
    promise25Hauling();
    haulingOfMany();
    promise26Thing();
    promise27UpThere();
    promise28ToRaise();
    promise29States();
    statesOfLikeWorth();
    CHECK.end("asks");
  }

  private static SeaWithStairs ships(int... weights) {
    SeaWithStairs x = new SeaWithStairs();
    x.step(40, 2, 50, 10);
    x.step(30, 1, 20, 0);
    x.step(20, 0, 5, 4);
    for (int weight : weights) {
      x.ship(weight, 1, 1);
    }
    return x;
  }

  private static void promise25Hauling() {
    SeaWithStairs x = ships(10, 6, 4);
    CHECK.due("up 1, down 0", x.hauling(0, 2, 1, -1), 0);
    CHECK.due("with whom 1 goes", x.hauling(0, 2, 1, 1), 0);
    CHECK.due("with whom 0 goes", x.hauling(0, 2, 1, 0), 1);
    CHECK.due("of none", x.hauling(0, 2, 1, 2), -2);
    CHECK.due("by the riser", x.hauling(1, 4, 0, -1), 120);
    CHECK.due("none down", x.hauling(1, 4, 0, 2), -1);
    CHECK.due("like ones: the lowest up", x.hauling(0, 3, 4, -1), 480);
    CHECK.due("0 with 2", x.hauling(0, 3, 4, 0), 2);
    CHECK.due("1 with none", x.hauling(0, 3, 4, 1), -1);
    CHECK.due("2 with 0", x.hauling(0, 3, 4, 2), 0);
    CHECK.due("a step without a riser", x.hauling(2, 1, 0, -1), -2);
    CHECK.due("step -1", x.hauling(-1, 1, 0, -1), -2);
    CHECK.due("step 3", x.hauling(3, 1, 0, -1), -2);
    CHECK.due("both up and down", x.hauling(0, 1, 1, -1), -2);
    CHECK.due("none up", x.hauling(0, 0, 1, -1), -2);
    CHECK.due("up not told", x.hauling(0, 8, 1, -1), -2);
    CHECK.due("down not told", x.hauling(0, 1, 8, -1), -2);
    CHECK.due("up -1", x.hauling(0, -1, 0, -1), -2);
    CHECK.due("down -1", x.hauling(0, 1, -2, -1), -2);
    CHECK.due("ship -2", x.hauling(0, 1, 2, -2), -2);
    CHECK.due("ship 3", x.hauling(0, 1, 2, 3), -2);
    CHECK.due("ship 32", x.hauling(0, 1, 2, 32), -2);
    CHECK.due("nothing changed", x.about(4) + x.ofShip(0, 3), 0);
  }

  private static void haulingOfMany() {
    SeaWithStairs x = ships(10, 20, 30, 9, 21, 29, 5);
    CHECK.due("four up, three down", x.hauling(0, 0b1000111, 0b0111000, -1), (1 + 0 + 1 + 5) * 40);
    int[] with = {3, 4, 5, 0, 1, 2, -1};
    for (int ship = 0; ship < 7; ship++) {
      CHECK.due("with " + ship, x.hauling(0, 0b1000111, 0b0111000, ship), with[ship]);
    }
    CHECK.due("three up, four down", x.hauling(0, 0b0111000, 0b1000111, -1), 40);
    int[] then = {3, -1, 5, 0, -1, 2, -1};
    CHECK.due("9 with 10", x.hauling(0, 0b0111000, 0b1000111, 3), 0);
    CHECK.due("21 with 20", x.hauling(0, 0b0111000, 0b1000111, 4), 1);
    CHECK.due("29 with 30", x.hauling(0, 0b0111000, 0b1000111, 5), 2);
    CHECK.due("5 with none", x.hauling(0, 0b0111000, 0b1000111, 6), then[6]);
    CHECK.due("five up", x.hauling(0, 0b11111, 0, -1), -2);
    CHECK.due("five down", x.hauling(0, 0b100000, 0b11111, -1), -2);
    CHECK.due("four up", x.hauling(0, 0b1111, 0, -1), 69 * 40);

    Check.text(x, "hauls 5;");
    Check.text(x, "hauls other;");
    x.by(0);
    CHECK.due("all like", x.hauling(0, 0b11, 0b1100, -1), 10);
    CHECK.due("the lowest with the lowest", x.hauling(0, 0b11, 0b1100, 0), 2);
    CHECK.due("the next with the next", x.hauling(0, 0b11, 0b1100, 1), 3);
    CHECK.due("the lowest with the lowest", x.hauling(0, 0b1100, 0b11, 2), 0);
    x.by(1);
    CHECK.due("with none is least", x.hauling(0, 0b11, 0b1100, -1), 0);
    CHECK.due("none", x.hauling(0, 0b11, 0b1100, 0), -1);
    CHECK.due("none", x.hauling(0, 0b11, 0b1100, 2), -1);
  }

  private static void promise26Thing() {
    SeaWithStairs x = ships();
    CHECK.due("out", x.thing(5, 0), 3);
    x.raise(1, 2);
    CHECK.due("stays", x.thing(5, 0), 1);
    CHECK.due("stays at once", x.thing(5, 1), 1);
    CHECK.due("from the last out", x.thing(5, 2), 3);
    CHECK.due("weight 0", x.thing(0, 0), -1);
    CHECK.due("weight 100", x.thing(100, 0), -1);
    CHECK.due("step 3", x.thing(1, 3), -1);
    CHECK.due("step -1", x.thing(1, -1), -1);
    Check.text(x, "falls weight>10*step;");
    x.by(0);
    CHECK.due("light", x.thing(1, 0), 1);
    CHECK.due("heavier", x.thing(11, 0), 2);
    CHECK.due("heavy", x.thing(21, 0), 3);
    SeaWithStairs y = sills(0, 0, 0, 0, 0, 0, 0, 0, 0);
    CHECK.due("no water", y.thing(1, 0), 0);
    for (int i = 0; i < 9; i++) {
      y.flood(i, 1);
    }
    CHECK.due("past nine", y.thing(1, 0), 9);
    CHECK.due("from all", y.upThere(1, 8), 511);
  }

  private static void promise27UpThere() {
    SeaWithStairs x = ships();
    x.step(9, 9, 9, 9);
    CHECK.due("all", x.upThere(5, 3), 15);
    CHECK.due("not from below, though it falls there too", x.upThere(5, 2), 7);
    CHECK.due("to the top from itself alone", x.upThere(5, 0), 1);
    x.raise(1, 2);
    CHECK.due("to 1 from above and itself", x.upThere(5, 1), 3);
    CHECK.due("1 holds", x.upThere(5, 2), 4);
    CHECK.due("1 holds", x.upThere(5, 3), 12);
    CHECK.due("weight 0", x.upThere(0, 0), -1);
    CHECK.due("weight 100", x.upThere(100, 0), -1);
    CHECK.due("step 4", x.upThere(1, 4), -1);
    CHECK.due("step -1", x.upThere(1, -1), -1);
    Check.text(x, "falls weight>10;");
    x.by(0);
    CHECK.due("light", x.upThere(10, 2), 4);
    CHECK.due("heavy", x.upThere(11, 2), 7);
    SeaWithStairs y = sills(0, 0, 0, 0, 0, 0, 0, 0, 0);
    for (int i = 0; i < 9; i++) {
      CHECK.due("nothing goes on: from itself alone", y.upThere(1, i), 1 << i);
    }
  }

  private static void promise28ToRaise() {
    SeaWithStairs x = ships();
    CHECK.due("to 5", x.toRaise(0), 5);
    CHECK.due("to 2", x.toRaise(1), 2);
    CHECK.due("to 1", x.toRaise(2), 1);
    x.raise(0, 77);
    CHECK.due("enough", x.toRaise(0), 77);
    CHECK.due("step 3", x.toRaise(3), -1);
    CHECK.due("step -1", x.toRaise(-1), -1);
    Check.text(x, "flows 99-sill;");
    Check.text(x, "flows 100-sill;");
    Check.text(x, "flows sill-below sill-1;");
    x.by(0);
    CHECK.due("to the greatest", x.toRaise(1), 99);
    x.by(1);
    CHECK.due("none", x.toRaise(1), -1);
    x.by(2);
    CHECK.due("this sill alone", x.toRaise(1), 1);
    CHECK.due("less is not asked", x.toRaise(0), -1);
    CHECK.due("nothing changed", x.ofStep(1, 1), 1);
  }

  private static SeaWithStairs sills(int... sills) {
    SeaWithStairs x = new SeaWithStairs();
    for (int sill : sills) {
      x.step(1, sill, 0, 0);
    }
    return x;
  }

  private static void parts(SeaWithStairs x, int k, int worth, int... unions) {
    CHECK.due("worth at " + k, x.states(k, -1), worth);
    for (int step = 0; step < unions.length; step++) {
      CHECK.due("union of " + step + " at " + k, x.states(k, step), unions[step]);
    }
    CHECK.due("no such step", x.states(k, unions.length), -1000000000);
  }

  private static void promise29States() {
    SeaWithStairs x = new SeaWithStairs();
    CHECK.due("without steps", x.states(0, -1), -1000000000);
    parts(sills(2, 1, 0), 0, 9, 0, 0, 0);
    parts(sills(2, 1, 0), 5, 3, 0, 1, 2);
    parts(sills(9), 999, 9, 0);
    parts(sills(1, 9, 9, 1), 17, 1 + (18 * 2 - 17) + 1, 0, 1, 1, 2);
    x = sills(2, 1, 0);
    CHECK.due("k -1", x.states(-1, -1), -1000000000);
    CHECK.due("k 1000", x.states(1000, -1), -1000000000);
    CHECK.due("step -2", x.states(0, -2), -1000000000);
    Check.text(x, "takes 0;");
    Check.text(x, "takes weight;");
    x.by(0);
    parts(x, 999, 0, 0, 1, 2);
    x.by(1);
    parts(x, 0, 90, 0, 0, 0);
  }

  private static void statesOfLikeWorth() {
    // Two and two are worth as much as three and one, or as one and three: the fewest, then the first the longest.
    parts(sills(0, 0, 0, 0), 0, 0, 0, 0, 0, 0);
    // Each on its own 3 * 4; two 12 + 12 - k: at 12 all parts in ones and twos are like.
    SeaWithStairs x = sills(6, 6, 6);
    parts(x, 12, 54 - 36, 0, 0, 0);
    parts(x, 13, 18, 0, 1, 2);
    parts(sills(5, 5, 5, 0), 10, 15 * 3 - 30, 0, 0, 0, 1);
    parts(sills(5, 0, 0, 0, 5), 5, 10, 0, 0, 1, 2, 2);
    parts(sills(1, 9, 1), 8, 2 * 10 - 8 + 1, 0, 0, 1);
    // 2 * 2 - 2 and 0 and 1 are worth as much, but are more.
    parts(sills(0, 2, 0, 1), 2, 3 * 3 - 3 * 2, 0, 1, 1, 1);
    x = sills(9, 9, 9);
    x.image();
    x.step(1, 9, 0, 0);
    CHECK.due("of four", x.states(0, -1), 4 * 36);
    x.back();
    CHECK.due("of three again", x.states(0, -1), 3 * 27);
    parts(sills(1, 1, 1, 1, 1, 1, 1, 1, 1), 0, 81, 0, 0, 0, 0, 0, 0, 0, 0, 0);
    parts(sills(9, 8, 7, 6, 5, 4, 3, 2, 1), 999, 45, 0, 1, 2, 3, 4, 5, 6, 7, 8);
  }
}
