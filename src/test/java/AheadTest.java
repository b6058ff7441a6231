/** Promises 21, 22, 23, 24, 39: what is foretold, when ships come, voyages and runs. */
public final class AheadTest {
  private static final Check CHECK = new Check();

  public static void main(String[] args) {
    promise21And22Foretold();
    foretoldBeyondTheLastHour();
    promise23Comes();
    promise24Voyage();
    voyagesOfLikePence();
    voyageTriedOut();
    promise39Run();
    CHECK.end("ahead");
  }

  private static void promise21And22Foretold() {
    SeaWithStairs x = new SeaWithStairs();
    x.step(40, 2, 50, 10);
    x.step(30, 1, 20, 0);
    x.step(20, 0, 5, 4);
    x.ship(10, 0, 2);
    x.ship(6, 2, 0);
    CHECK.due("on", x.foretoldShip(1, 0, 0), 1);
    CHECK.due("paid", x.foretoldShip(1, 0, 1), 2);
    CHECK.due("paid", x.foretoldShip(2, 1, 1), 420);
    CHECK.due("water", x.foretoldStep(1, 1, 0), 40);
    CHECK.due("fish", x.foretoldStep(1, 1, 1), 6);
    for (int n = 1; n <= 60; n++) {
      SeaWithStairs y = new SeaWithStairs();
      y.step(40, 2, 50, 10);
      y.step(30, 1, 20, 0);
      y.step(20, 0, 5, 4);
      y.ship(10, 0, 2);
      y.ship(6, 2, 0);
      y.hour(n);
      for (int what = 0; what < 2; what++) {
        CHECK.due("as it comes", x.foretoldShip(n, 1, what), y.ofShip(1, what == 0 ? 1 : 3));
        CHECK.due("as it comes", x.foretoldStep(n, 1, what), y.ofStep(1, what == 0 ? 2 : 3));
      }
    }
    CHECK.due("nothing changed", x.is(0) + x.about(4) + x.ofShip(0, 1) + x.book(-1, 0), 0);
    CHECK.due("n 0", x.foretoldShip(0, 0, 0), -1);
    CHECK.due("n 61", x.foretoldShip(61, 0, 0), -1);
    CHECK.due("ship 2", x.foretoldShip(1, 2, 0), -1);
    CHECK.due("ship -1", x.foretoldShip(1, -1, 0), -1);
    CHECK.due("what 2", x.foretoldShip(1, 0, 2), -1);
    CHECK.due("what -1", x.foretoldShip(1, 0, -1), -1);
    CHECK.due("n 0", x.foretoldStep(0, 0, 0), -1);
    CHECK.due("n 61", x.foretoldStep(61, 0, 0), -1);
    CHECK.due("step 3", x.foretoldStep(1, 3, 0), -1);
    CHECK.due("step -1", x.foretoldStep(1, -1, 0), -1);
    CHECK.due("what 2", x.foretoldStep(1, 0, 2), -1);
    CHECK.due("what -1", x.foretoldStep(1, 0, -1), -1);
  }

  private static void foretoldBeyondTheLastHour() {
    SeaWithStairs x = new SeaWithStairs();
    x.step(1, 0, 0, 0);
    x.step(1, 0, 0, 0);
    for (int i = 0; i < 166; i++) {
      x.hour(60);
    }
    x.hour(38);
    x.ship(1, 1, 0);
    Check.text(x, "hauls hour-9000;takes hour-9000;wears 0;");
    x.by(0);
    CHECK.due("it comes in time", x.foretoldShip(60, 0, 0), 0);
    CHECK.due("pays by the hour", x.foretoldShip(60, 0, 1), 998);
    CHECK.due("a voyage beyond 9999", x.voyage(1, 0, 1, 48, -2), 998);
    Check.text(x, "takes 99-hour*99+9999*99;");
    x.by(1);
    CHECK.due("the soonest of hour 9999 and 10000", x.voyage(1, 0, 1, 48, 0), 2);
    CHECK.due("takes at hour 10000", x.voyage(1, 0, 1, 48, -2), 0);
    CHECK.due("hour is as it was", x.is(0), 9998);
  }

  private static void promise23Comes() {
    SeaWithStairs x = new SeaWithStairs();
    CHECK.due("no ship", x.comes(0), -1);
    for (int i = 0; i < 9; i++) {
      x.step(1, 0, 0, 0);
    }
    x.ship(1, 0, 8);
    x.ship(1, 4, 4);
    CHECK.due("eight risers", x.comes(0), 8);
    CHECK.due("it is there", x.comes(1), 0);
    CHECK.due("ship 2", x.comes(2), -1);
    CHECK.due("ship -1", x.comes(-1), -1);
    CHECK.due("nothing changed", x.is(0), 0);
    Check.text(x, "wears 100;");
    x.by(0);
    x.ship(1, 0, 1);
    CHECK.due("the rope is worn out", x.comes(2), -1);
    x.bind(0, 0);
    CHECK.due("now it isn't", x.comes(2), 1);

    SeaWithStairs y = new SeaWithStairs();
    y.step(1, 0, 0, 0);
    y.step(1, 0, 0, 0);
    for (int i = 0; i < 7; i++) {
      y.ship(1, 0, 1);
    }
    for (int i = 0; i < 7; i++) {
      CHECK.due("one by one", y.comes(i), i + 1);
    }
  }

  private static SeaWithStairs stairs(int steps, String takes) {
    SeaWithStairs x = new SeaWithStairs();
    for (int i = 0; i < steps; i++) {
      x.step(1, i, 0, 0);
    }
    CHECK.due("takes " + takes, Check.text(x, "takes " + takes + ";"), 0);
    x.by(0);
    return x;
  }

  private static void promise24Voyage() {
    SeaWithStairs x = stairs(3, "step*(10-4*hour)");
    CHECK.due("pence", x.voyage(10, 0, 2, 3, -2), 2);
    CHECK.due("comes", x.voyage(10, 0, 2, 3, -1), 3);
    CHECK.due("goes", x.voyage(10, 0, 2, 3, 0), 0);
    CHECK.due("goes", x.voyage(10, 0, 2, 3, 1), 2);
    CHECK.due("with more hours", x.voyage(10, 0, 2, 4, -2), 0);
    CHECK.due("comes", x.voyage(10, 0, 2, 48, -1), 4);
    CHECK.due("no third riser", x.voyage(10, 0, 2, 3, 2), -100);
    CHECK.due("i -3", x.voyage(10, 0, 2, 3, -3), -100);
    CHECK.due("too few", x.voyage(10, 0, 2, 1, -2), -100);
    CHECK.due("n 0", x.voyage(10, 0, 1, 0, -2), -100);
    CHECK.due("n 49", x.voyage(10, 0, 1, 49, -2), -100);
    CHECK.due("upwards", x.voyage(10, 2, 0, 3, -2), -100);
    CHECK.due("nowhere", x.voyage(10, 1, 1, 3, -2), -100);
    CHECK.due("weight 0", x.voyage(0, 0, 1, 3, -2), -100);
    CHECK.due("weight 100", x.voyage(100, 0, 1, 3, -2), -100);
    CHECK.due("from -1", x.voyage(1, -1, 1, 3, -2), -100);
    CHECK.due("to 3", x.voyage(1, 0, 3, 3, -2), -100);

    x = stairs(9, "1");
    CHECK.due("eight risers", x.voyage(1, 0, 8, 48, -2), 8);
    CHECK.due("one riser", x.voyage(1, 3, 4, 48, -2), 1);
    CHECK.due("one riser in one hour", x.voyage(1, 3, 4, 1, -2), 1);
    CHECK.due("two risers", x.voyage(1, 6, 8, 48, -2), 2);
    CHECK.due("eight in eight hours", x.voyage(1, 0, 8, 8, -1), 8);
    CHECK.due("eight in seven hours", x.voyage(1, 0, 8, 7, -1), -100);
    CHECK.due("nothing changed", x.is(0) + x.about(4), 0);

    SeaWithStairs y = new SeaWithStairs();
    y.step(1, 7, 0, 0);
    y.step(1, 0, 0, 0);
    y.ship(1, 0, 1);
    Check.text(y, "wears 100;");
    y.by(0);
    y.hour(1);
    CHECK.due("ropes hold", y.voyage(1, 0, 1, 1, -2), 7);
  }

  private static void voyagesOfLikePence() {
    // Free at even hours alone: of the free voyages the one that comes soonest.
    SeaWithStairs x = stairs(4, "hour-hour/2*2");
    int[] due = {0, 5, 0, 2, 4};
    for (int i = -2; i < 3; i++) {
      CHECK.due("even hours, " + i, x.voyage(1, 0, 3, 9, i), due[i + 2]);
    }
    x.hour(1);
    due = new int[] {0, 6, 1, 3, 5};
    for (int i = -2; i < 3; i++) {
      CHECK.due("from an odd hour, " + i, x.voyage(1, 0, 3, 9, i), due[i + 2]);
    }
    // The last riser is free at hour 5 alone: those above go as soon as can be.
    x = stairs(4, "step/2*(hour-5)*(hour-5)");
    due = new int[] {0, 6, 0, 1, 5};
    for (int i = -2; i < 3; i++) {
      CHECK.due("the first at once, " + i, x.voyage(1, 0, 3, 20, i), due[i + 2]);
    }
    // The weight is asked for.
    x = stairs(2, "weight*2");
    CHECK.due("weight", x.voyage(44, 0, 1, 1, -2), 88);
  }

  /** Against all ways of going down three risers in eight hours. */
  private static void voyageTriedOut() {
    String[] laws = {"step*hour*7-hour*hour", "9-hour*step+hour*hour/(step+1)", "hour*5-hour*5/3*3", "4*step-hour", "1"};
    for (String law : laws) {
      SeaWithStairs x = stairs(4, law);
      int[] best = null;
      for (int a = 0; a < 8; a++) {
        for (int b = a + 1; b < 8; b++) {
          for (int c = b + 1; c < 8; c++) {
            int[] way = {toll(law, 0, a) + toll(law, 1, b) + toll(law, 2, c), c + 1, a, b, c};
            if (best == null || java.util.Arrays.compare(way, best) < 0) {
              best = way;
            }
          }
        }
      }
      for (int i = -2; i < 3; i++) {
        CHECK.due("takes " + law + ", " + i, x.voyage(9, 0, 3, 8, i), best[i + 2]);
      }
    }
  }

  private static int toll(String law, int step, int hour) {
    SeaWithStairs x = stairs(4, law);
    if (hour > 0) {
      x.hour(hour);
    }
    return x.voyage(9, step, step + 1, 1, -2);
  }

  private static void promise39Run() {
    SeaWithStairs x = new SeaWithStairs();
    CHECK.due("without ships", x.run(false), -1);
    CHECK.due("without ships", x.run(true), -1);
    x.step(1, 0, 0, 0);
    x.step(1, 0, 0, 0);
    x.step(1, 0, 0, 0);
    x.ship(1, 0, 0);
    x.ship(1, 1, 1);
    CHECK.due("all are there", x.run(false), 0);
    CHECK.due("the lowest", x.run(true), 0);
    x.ship(1, 0, 2);
    CHECK.due("two hours", x.run(false), 2);
    CHECK.due("the third", x.run(true), 2);
    x.ship(1, 2, 0);
    CHECK.due("two at once", x.run(false), 2);
    CHECK.due("the lowest of both", x.run(true), 2);
    x.ship(1, 0, 2);
    CHECK.due("one behind", x.run(false), 3);
    CHECK.due("that one", x.run(true), 4);
    Check.text(x, "wears 40;");
    x.by(0);
    CHECK.due("worn 40, 80, 100", x.run(false), 3);
    x.ship(1, 0, 2);
    CHECK.due("a rope is worn out", x.run(false), -1);
    CHECK.due("none comes last", x.run(true), -1);
    CHECK.due("nothing changed", x.is(0) + x.about(4), 0);

    SeaWithStairs y = new SeaWithStairs();
    y.step(1, 0, 0, 0);
    y.step(1, 0, 0, 0);
    y.ship(1, 0, 1);
    y.ship(1, 1, 1);
    Check.text(y, "wears 100;");
    y.by(0);
    CHECK.due("the first comes last", y.run(true), 0);
    CHECK.due("in an hour", y.run(false), 1);
    y.hour(1);
    y.bind(0, 0);
    CHECK.due("it never comes", y.run(false), -1);
    CHECK.due("none comes last", y.run(true), -1);
  }
}
