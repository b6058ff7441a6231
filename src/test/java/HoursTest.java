/** Promises 9 and 20: what an hour does with ropes and water, and what is written in the book. */
public final class HoursTest {
  private static final Check CHECK = new Check();

  public static void main(String[] args) {
    promise9Hour();
    whoPasses();
    onceInAnHour();
    ropes();
    paid();
    water();
    out();
    promise20Book();
    CHECK.end("hours");
  }

  private static void promise9Hour() {
    SeaWithStairs x = new SeaWithStairs();
    CHECK.due("0", x.hour(0), -1);
    CHECK.due("61", x.hour(61), -1);
    CHECK.due("-1", x.hour(-1), -1);
    CHECK.due("nothing done", x.is(0), 0);
    for (int i = 0; i < 166; i++) {
      CHECK.due("60", x.hour(60), 0);
    }
    CHECK.due("hour", x.is(0), 9960);
    CHECK.due("40", x.hour(40), -1);
    CHECK.due("hour", x.is(0), 9960);
    CHECK.due("39", x.hour(39), 0);
    CHECK.due("hour", x.is(0), 9999);
    CHECK.due("1", x.hour(1), -1);
    CHECK.due("acts", x.about(4), 30);

    SeaWithStairs y = new SeaWithStairs();
    for (int i = 0; i < 4; i++) {
      y.step(1, 0, 0, 0);
    }
    y.ship(1, 0, 3);
    y.ship(1, 3, 0);
    CHECK.due("passages in three hours", y.hour(3), 6);
    CHECK.due("acts", y.about(4), 3);
  }

  private static void whoPasses() {
    SeaWithStairs x = new SeaWithStairs();
    x.step(10, 1, 0, 0);
    x.step(10, 2, 0, 0);
    x.step(10, 3, 0, 0);
    x.ship(1, 0, 0);
    x.ship(2, 0, 1);
    x.ship(3, 0, 2);
    x.ship(4, 1, 1);
    x.ship(5, 1, 2);
    x.ship(6, 1, 0);
    x.ship(7, 2, 0);
    // At riser 0 ship 1 goes down and 5 up; at riser 1 ship 4 goes down and 6 up.
    CHECK.due("passages", x.hour(1), 4);
    int[] on = {0, 1, 0, 1, 2, 0, 1};
    int[] paid = {0, 1, 0, 0, 2, 40, 20};
    for (int ship = 0; ship < 7; ship++) {
      CHECK.due("on of " + ship, x.ofShip(ship, 1), on[ship]);
      CHECK.due("paid of " + ship, x.ofShip(ship, 3), paid[ship]);
    }
    // Now ship 2 goes down and 6 up.
    CHECK.due("passages", x.hour(1), 2);
    CHECK.due("on of 2", x.ofShip(2, 1), 1);
    CHECK.due("on of 6", x.ofShip(6, 1), 0);
    CHECK.due("paid of 6", x.ofShip(6, 3), 60);
  }

  private static void onceInAnHour() {
    SeaWithStairs x = new SeaWithStairs();
    for (int i = 0; i < 9; i++) {
      x.step(1, i, 0, 0);
    }
    x.ship(1, 0, 8);
    x.ship(2, 8, 0);
    CHECK.due("passages", x.hour(1), 2);
    CHECK.due("one riser down", x.ofShip(0, 1), 1);
    CHECK.due("one riser up", x.ofShip(1, 1), 7);
    // They meet at the riser below step 3.
    x.hour(2);
    CHECK.due("from 3", x.ofShip(0, 1), 3);
    CHECK.due("from 5", x.ofShip(1, 1), 5);
    x.hour(5);
    CHECK.due("on its goal", x.ofShip(0, 1), 8);
    CHECK.due("takes of all", x.ofShip(0, 3), 28);
    CHECK.due("on its goal", x.ofShip(1, 1), 0);
    CHECK.due("no more pass", x.hour(1), 0);
  }

  private static void ropes() {
    SeaWithStairs x = new SeaWithStairs();
    x.step(10, 1, 0, 0);
    x.step(10, 2, 0, 0);
    x.ship(60, 0, 1);
    x.ship(30, 1, 0);
    Check.text(x, "wears weight;takes worn+1;hauls worn+2;");
    x.by(0);
    CHECK.due("two pass", x.hour(1), 2);
    CHECK.due("worn", x.ofStep(0, 4), 90);
    CHECK.due("takes by the rope as it was", x.ofShip(0, 3), 1);
    CHECK.due("hauls by the rope as it was", x.ofShip(1, 3), 2);
    x.bind(0, 0);
    CHECK.due("one passes", x.hour(1), 1);
    CHECK.due("worn out", x.ofStep(0, 4), 100);
    x.bind(0, 1);
    CHECK.due("none passes", x.hour(1), 0);
    CHECK.due("where it is", x.ofShip(0, 1), 0);
    CHECK.due("mended", x.mend(0), 100);
    CHECK.due("it passes", x.hour(1), 1);
  }

  private static void paid() {
    SeaWithStairs x = new SeaWithStairs();
    x.step(10, 1, 0, 0);
    x.step(10, 2, 0, 0);
    x.ship(60, 0, 1);
    x.ship(60, 1, 0);
    Check.text(x, "takes 9999;hauls 9999;wears 0;");
    x.by(0);
    for (int i = 0; i < 12; i++) {
      x.hour(1);
      x.bind(0, i % 2);
      x.bind(1, 1 - i % 2);
      CHECK.due("paid down", x.ofShip(0, 3), Math.min(99999, 9999 * (i + 1)));
      CHECK.due("paid up", x.ofShip(1, 3), Math.min(99999, 9999 * (i + 1)));
    }
  }

  private static void water() {
    SeaWithStairs x = new SeaWithStairs();
    x.step(10, 0, 900, 900);
    x.step(10, 3, 500, 500);
    x.step(10, 99, 999, 7);
    x.hour(1);
    // All of 0 goes to 1, of 1 470 of 500; on 2 no more stays.
    int[] water = {0, 930, 999};
    int[] fish = {0, 930, 477};
    for (int i = 0; i < 3; i++) {
      CHECK.due("water of " + i, x.ofStep(i, 2), water[i]);
      CHECK.due("fish of " + i, x.ofStep(i, 3), fish[i]);
    }
    CHECK.due("what the highest sill does not hold", x.is(1), 9);
    x.hour(1);
    // On 1 there were 930 and 900 go, with 900 of the fish: 999 at most stay on 2.
    CHECK.due("water", x.ofStep(1, 2), 30);
    CHECK.due("fish", x.ofStep(1, 3), 30);
    CHECK.due("water, the rest is gone", x.ofStep(2, 2), 999);
    CHECK.due("fish, the rest are gone", x.ofStep(2, 3), 999);

    SeaWithStairs y = new SeaWithStairs();
    y.step(1, 0, 3, 5);
    y.step(1, 0, 7, 5);
    y.step(1, 0, 0, 9);
    Check.text(y, "flows water-1;");
    y.by(0);
    y.hour(1);
    // 5 * 2 / 3 is 3; 5 * 6 / 7 is 4; of no water no fish.
    int[] left = {2, 4, 13};
    for (int i = 0; i < 3; i++) {
      CHECK.due("fish cut, of " + i, y.ofStep(i, 3), left[i]);
    }
    CHECK.due("fish without water stay", y.is(2), 0);

    SeaWithStairs z = new SeaWithStairs();
    z.step(1, 0, 10, 0);
    z.step(1, 0, 20, 0);
    Check.text(z, "flows above water+worn;wears 3;");
    z.by(0);
    z.ship(1, 0, 1);
    z.hour(1);
    // The rope is worn ahead of the water; the steps are as they are ahead of it.
    CHECK.due("water of 0", z.ofStep(0, 2), 7);
    CHECK.due("water of 1", z.ofStep(1, 2), 13);
    CHECK.due("out", z.is(1), 10);
  }

  private static void out() {
    SeaWithStairs x = new SeaWithStairs();
    x.step(1, 0, 999, 999);
    Check.text(x, "flows water/3;");
    x.by(0);
    x.hour(1);
    CHECK.due("out water", x.is(1), 333);
    CHECK.due("out fish", x.is(2), 333);
    CHECK.due("water", x.ofStep(0, 2), 666);
    x.hour(1);
    CHECK.due("out water", x.is(1), 333 + 222);
    CHECK.due("out fish", x.is(2), 333 + 222);
  }

  private static void promise20Book() {
    SeaWithStairs x = new SeaWithStairs();
    CHECK.due("none", x.book(0, 0), -2);
    x.step(10, 1, 0, 0);
    x.step(10, 2, 0, 0);
    x.ship(60, 1, 0);
    x.ship(60, 0, 1);
    x.hour(1);
    CHECK.due("how many", x.book(-1, 0), 2);
    CHECK.due("the one down first: hour", x.book(0, 0), 0);
    CHECK.due("ship", x.book(0, 1), 1);
    CHECK.due("step", x.book(0, 2), 1);
    CHECK.due("the one up then: hour", x.book(1, 0), 0);
    CHECK.due("ship", x.book(1, 1), 0);
    CHECK.due("step", x.book(1, 2), 0);
    CHECK.due("what 3", x.book(0, 3), -2);
    CHECK.due("what -1", x.book(0, -1), -2);
    CHECK.due("the third", x.book(2, 0), -2);
    CHECK.due("-2", x.book(-2, 0), -2);
    x.ship(1, 0, 0);
    for (int i = 1; i < 45; i++) {
      x.bind(2, i % 2);
      CHECK.due("one passes", x.hour(1), 1);
      CHECK.due("how many", x.book(-1, 9), Math.min(40, 2 + i));
    }
    for (int i = 0; i < 40; i++) {
      CHECK.due("hour of " + i, x.book(i, 0), 5 + i);
      CHECK.due("ship of " + i, x.book(i, 1), 2);
      CHECK.due("step of " + i, x.book(i, 2), (5 + i) % 2);
    }
    CHECK.due("no more than 40", x.book(40, 0), -2);
    for (int i = 0; i < 165; i++) {
      x.hour(60);
    }
    x.bind(2, 1);
    x.hour(1);
    CHECK.due("a late hour", x.book(39, 0), 45 + 165 * 60);
    CHECK.due("its ship", x.book(39, 1), 2);
    CHECK.due("its step", x.book(39, 2), 1);
  }
}
