/** What is cut, and at what: just below it, at it and just above it. */
public final class CutTest {
  private static final Check CHECK = new Check();

  public static void main(String[] args) {
    paidDown();
    paidUp();
    worn();
    wornOut();
    ropesAsAllIsThen();
    flooded();
    waterThatStays();
    fishThatStay();
    partsOfFish();
    out();
    takesAndHauls();
    wears();
    flows();
    withoutLaws();
    valuesAtEachStep();
    quotients();
    voyages();
    greatestAnswers();
    sillsToRaise();
    CHECK.end("cut");
  }

  private static SeaWithStairs ruled(int steps, String text) {
    SeaWithStairs x = new SeaWithStairs();
    for (int i = 0; i < steps; i++) {
      x.step(99, 99, 0, 0);
    }
    rule(x, text);
    return x;
  }

  private static void rule(SeaWithStairs x, String text) {
    int number = Check.text(x, text);
    CHECK.due("text " + text, number >= 0, true);
    x.by(number);
  }

  private static void paidDown() {
    SeaWithStairs x = ruled(2, "takes 9999;hauls 0;wears 0;");
    x.ship(1, 0, 1);
    for (int i = 1; i <= 10; i++) {
      x.hour(1);
      x.bind(0, 0);
      x.hour(1);
      x.bind(0, 1);
    }
    CHECK.due("paid", x.ofShip(0, 3), 99990);
    x.image();
    int[] tolls = {8, 9, 10};
    int[] due = {99998, 99999, 99999};
    for (int i = 0; i < 3; i++) {
      x.back();
      rule(x, "takes " + tolls[i] + ";hauls 2;wears 0;");
      CHECK.due("foretold", x.foretoldShip(1, 0, 1), due[i]);
      x.hour(1);
      CHECK.due("and " + tolls[i], x.ofShip(0, 3), due[i]);
      x.bind(0, 0);
      x.hour(1);
      CHECK.due("and 2 up", x.ofShip(0, 3), 99999);
    }
  }

  private static void paidUp() {
    SeaWithStairs x = ruled(2, "takes 0;hauls 9999;wears 0;");
    x.ship(1, 1, 0);
    for (int i = 1; i <= 10; i++) {
      x.hour(1);
      x.bind(0, 1);
      x.hour(1);
      x.bind(0, 0);
    }
    CHECK.due("paid", x.ofShip(0, 3), 99990);
    x.image();
    int[] pence = {8, 9, 10, 9999};
    int[] due = {99998, 99999, 99999, 99999};
    for (int i = 0; i < 4; i++) {
      x.back();
      rule(x, "hauls " + pence[i] + ";");
      CHECK.due("foretold", x.foretoldShip(1, 0, 1), due[i]);
      x.hour(1);
      CHECK.due("and " + pence[i], x.ofShip(0, 3), due[i]);
    }
  }

  private static void worn() {
    int[] first = {0, 1, 50, 98, 99, 99, 99};
    int[] more = {100, 99, 49, 1, 0, 1, 2};
    int[] due = {100, 100, 99, 99, 99, 100, 100};
    for (int i = 0; i < first.length; i++) {
      SeaWithStairs x = ruled(2, "wears weight;");
      x.ship(1, 0, 1);
      rule(x, "wears " + first[i] + ";");
      x.hour(1);
      CHECK.due("worn", x.ofStep(0, 4), first[i]);
      rule(x, "wears " + more[i] + ";");
      x.bind(0, 0);
      CHECK.due("a passage at " + first[i], x.hour(1), 1);
      CHECK.due("worn by " + more[i] + " more", x.ofStep(0, 4), due[i]);
      x.bind(0, 1);
      CHECK.due("a passage at " + due[i], x.hour(1), due[i] < 100 ? 1 : 0);
    }
  }

  private static void wornOut() {
    SeaWithStairs x = ruled(3, "wears 100;takes 5;");
    x.ship(1, 0, 2);
    x.ship(1, 2, 0);
    CHECK.due("one passage at each riser", x.hour(1), 2);
    CHECK.due("worn", x.ofStep(0, 4), 100);
    CHECK.due("worn", x.ofStep(1, 4), 100);
    CHECK.due("the last has no rope", x.ofStep(2, 4), 0);
    CHECK.due("none passes any more", x.hour(9), 0);
    CHECK.due("it doesn't come", x.comes(0), -1);
    CHECK.due("no run", x.run(false), -1);
    CHECK.due("who waits", x.waiting(1, true) + 10 * x.waiting(1, false), 1 + 10 * 2);
    CHECK.due("mended", x.mend(0), 100);
    CHECK.due("one passes, up", x.hour(1), 1);
    CHECK.due("which", x.ofShip(1, 1), 0);
    CHECK.due("worn anew", x.ofStep(0, 4), 100);
    CHECK.due("the other not", x.ofShip(0, 1), 1);
  }

  /** A rope above is worn ahead of the one below; a rope that nobody uses isn't. */
  private static void ropesAsAllIsThen() {
    SeaWithStairs x = ruled(3, "wears 7;takes above worn*100+below worn+worn*10;");
    x.ship(1, 0, 1);
    x.ship(1, 1, 2);
    x.hour(1);
    CHECK.due("at the upper one nothing is worn yet", x.ofShip(0, 3), 0);
    CHECK.due("at the lower one the upper is", x.ofShip(1, 3), 700);
    CHECK.due("worn", x.ofStep(0, 4), 7);
    CHECK.due("none passes", x.hour(1), 0);
    CHECK.due("worn as it was", x.ofStep(0, 4), 7);
  }

  private static void flooded() {
    int[] water = {0, 0, 1, 500, 500, 998, 998, 999, 999};
    int[] more = {998, 999, 999, 499, 500, 1, 2, 1, 999};
    for (int i = 0; i < water.length; i++) {
      SeaWithStairs x = new SeaWithStairs();
      x.step(1, 99, water[i], 5);
      int due = Math.min(999, water[i] + more[i]);
      CHECK.due(water[i] + " and " + more[i], x.flood(0, more[i]), due);
      CHECK.due("water then", x.ofStep(0, 2), due);
      CHECK.due("fish then", x.ofStep(0, 3), 5);
      CHECK.due("an act", x.undo(), 0);
      CHECK.due("taken back", x.ofStep(0, 2), water[i]);
    }
  }

  private static void waterThatStays() {
    int[] from = {499, 500, 501, 999, 999};
    int[] below = {499, 499, 499, 999, 0};
    for (int i = 0; i < from.length; i++) {
      SeaWithStairs x = new SeaWithStairs();
      x.step(1, 0, from[i], 0);
      x.step(1, 99, below[i], 0);
      rule(x, "flows (1-step)*water;");
      int due = Math.min(999, from[i] + below[i]);
      CHECK.due("foretold", x.foretoldStep(1, 1, 0), due);
      x.hour(1);
      CHECK.due(from[i] + " to " + below[i], x.ofStep(1, 2), due);
      CHECK.due("none stays above", x.ofStep(0, 2), 0);
      CHECK.due("none goes out", x.is(1), 0);
    }
    SeaWithStairs x = new SeaWithStairs();
    x.step(1, 0, 999, 999);
    x.step(1, 0, 999, 999);
    x.hour(1);
    CHECK.due("what goes on doesn't stay", x.ofStep(1, 2), 999);
    CHECK.due("nor do its fish", x.ofStep(1, 3), 999);
    CHECK.due("it is out", x.is(1), 999);
    CHECK.due("and they", x.is(2), 999);
    x.hour(2);
    CHECK.due("all is out", x.is(1), 1998);
    CHECK.due("and all of them", x.is(2), 1998);
  }

  private static void fishThatStay() {
    int[] from = {499, 500, 501, 999};
    for (int fish : from) {
      SeaWithStairs x = new SeaWithStairs();
      x.step(1, 0, 10, fish);
      x.step(1, 99, 0, 499);
      CHECK.due("foretold", x.foretoldStep(1, 1, 1), Math.min(999, fish + 499));
      x.hour(1);
      CHECK.due(fish + " to 499", x.ofStep(1, 3), Math.min(999, fish + 499));
      CHECK.due("none above", x.ofStep(0, 3), 0);
    }
  }

  private static void partsOfFish() {
    int[] water = {3, 3, 2, 2, 999, 999, 999, 999, 1, 0, 7};
    int[] fish = {5, 5, 1, 1, 999, 999, 1, 1, 999, 9, 6};
    int[] flows = {1, 2, 1, 2, 998, 999, 998, 999, 1, 0, 0};
    int[] due = {1, 3, 0, 1, 998, 999, 0, 1, 999, 0, 0};
    for (int i = 0; i < water.length; i++) {
      SeaWithStairs x = new SeaWithStairs();
      x.step(1, 0, water[i], fish[i]);
      x.step(1, 99, 0, 0);
      rule(x, "flows (1-step)*" + flows[i] + ";");
      x.hour(1);
      String what = fish[i] + " fish, " + flows[i] + " of " + water[i];
      CHECK.due(what + " go", x.ofStep(1, 3), due[i]);
      CHECK.due(what + " stay", x.ofStep(0, 3), fish[i] - due[i]);
    }
  }

  private static void out() {
    SeaWithStairs x = new SeaWithStairs();
    x.step(1, 0, 999, 999);
    for (int i = 1; i <= 30; i++) {
      x.hour(1);
      x.flood(0, 999);
      CHECK.due("out", x.is(1), 999 * i);
      CHECK.due("fish once", x.is(2), 999);
    }
    x.undo();
    x.undo();
    CHECK.due("taken back", x.is(1), 999 * 29);
  }

  private static void takesAndHauls() {
    String[] sums = {"0-9999", "0-1", "0", "1", "9998", "9999", "9999+1", "9999*9999"};
    int[] due = {0, 0, 0, 1, 9998, 9999, 9999, 9999};
    for (int i = 0; i < sums.length; i++) {
      SeaWithStairs x = ruled(2, "takes " + sums[i] + ";hauls " + sums[i] + ";wears 0;");
      x.ship(1, 0, 1);
      x.ship(1, 1, 0);
      CHECK.due("takes " + sums[i], x.voyage(1, 0, 1, 1, -2), due[i]);
      CHECK.due("hauls " + sums[i], x.hauling(0, 2, 1, -1), due[i]);
      CHECK.due("hauls both " + sums[i], x.hauling(0, 3, 0, -1), 2 * due[i]);
      CHECK.due("states by " + sums[i], x.states(999, -1), Math.max(2 * due[i], 4 * due[i] - 999));
      x.hour(1);
      CHECK.due("paid by takes " + sums[i], x.ofShip(0, 3), due[i]);
      CHECK.due("paid by hauls " + sums[i], x.ofShip(1, 3), due[i]);
    }
  }

  private static void wears() {
    String[] sums = {"0-9999", "0-1", "0", "1", "99", "100", "101", "9999*9999", "weight"};
    int[] due = {0, 0, 0, 1, 99, 100, 100, 100, 100};
    for (int i = 0; i < sums.length; i++) {
      SeaWithStairs x = ruled(2, "wears 40-hour*40;");
      x.ship(99, 0, 1);
      x.ship(99, 1, 0);
      rule(x, "wears " + sums[i] + ";");
      x.hour(1);
      CHECK.due("wears " + sums[i], x.ofStep(0, 4), due[i]);
    }
    SeaWithStairs y = ruled(2, "wears 40-hour*80;");
    y.ship(1, 0, 1);
    y.hour(1);
    y.bind(0, 0);
    CHECK.due("it passes", y.hour(1), 1);
    CHECK.due("a rope doesn't mend itself", y.ofStep(0, 4), 40);
  }

  private static void flows() {
    String[] sums = {"0-9999", "0-1", "0", "1", "water-1", "water", "water+1", "9999*9999"};
    int[] due = {0, 0, 0, 1, 49, 50, 50, 50};
    for (int i = 0; i < sums.length; i++) {
      SeaWithStairs x = new SeaWithStairs();
      x.step(1, 0, 50, 50);
      rule(x, "flows " + sums[i] + ";");
      CHECK.due("flows " + sums[i], x.ofStep(0, 6), due[i]);
      x.hour(1);
      CHECK.due("out by " + sums[i], x.is(1), due[i]);
      CHECK.due("left by " + sums[i], x.ofStep(0, 2), 50 - due[i]);
    }
  }

  private static void withoutLaws() {
    int[] sills = {0, 0, 3, 3, 3, 99, 99, 99};
    int[] waters = {0, 1, 29, 30, 31, 989, 990, 999};
    int[] flows = {0, 1, 0, 0, 1, 0, 0, 9};
    for (int i = 0; i < sills.length; i++) {
      SeaWithStairs x = new SeaWithStairs();
      x.step(1, sills[i], waters[i], 0);
      CHECK.due("flows at " + waters[i], x.ofStep(0, 6), flows[i]);
      CHECK.due("falls at " + waters[i], x.thing(1, 0), flows[i] > 0 ? 1 : 0);
    }
    int[] up = {5, 5, 5, 1, 99, 99, 1};
    int[] down = {4, 5, 6, 99, 1, 99, 0};
    int[] hauls = {99, 0, 0, 0, 98 * 99, 0, 99};
    for (int i = 0; i < up.length; i++) {
      SeaWithStairs x = ruled(2, "wears 1;");
      x.ship(up[i], 1, 0);
      if (down[i] > 0) {
        x.ship(down[i], 0, 1);
      }
      CHECK.due("hauls " + up[i] + " with " + down[i], x.hauling(0, 1, down[i] > 0 ? 2 : 0, -1), hauls[i]);
      x.hour(1);
      CHECK.due("paid", x.ofShip(0, 3), hauls[i]);
      CHECK.due("a sill's toll", x.ofShip(1, 3), down[i] > 0 ? 99 : -1);
    }
    CHECK.due("the most", heaviest().hauling(0, 1, 0, -1), 9801);
  }

  private static SeaWithStairs heaviest() {
    SeaWithStairs x = ruled(2, "");
    x.ship(99, 0, 0);
    return x;
  }

  private static void value(String sum, int due) {
    CHECK.due(sum, ruled(2, "takes " + sum + ";").voyage(1, 0, 1, 1, -2), due);
  }

  /** 9999*100 and 99 are one less than 1000000. */
  private static void valuesAtEachStep() {
    value("(9999*100+99)-(9999*100+98)", 1);
    value("(9999*100+100)-(9999*100+99)", 1);
    value("(9999*100+101)-(9999*100+99)", 1);
    value("(9999*100+102)-(9999*100+99)", 1);
    value("(-9999*100-99)+(9999*100+99)+2", 2);
    value("(-9999*100-100)+(9999*100+99)+2", 1);
    value("(-9999*100-101)+(9999*100+99)+2", 1);
    value("1000*1000-(9999*100+99)", 1);
    value("1000*1001-(9999*100+99)", 1);
    value("-1000*1000+(9999*100+99)+2", 1);
    value("-1000*1001+(9999*100+99)+2", 1);
    value("1000*-1001+(9999*100+99)+2", 1);
    value("9999*9999*9999*9999/9999", 100);
    value("9999*9999*(0-9999)/9999+101", 1);
    value("-(9999*9999)+9999*100+101", 1);
    value("1+9999*9999-9999*100-99", 1);
    value("9999*9999-1-9999*100-98", 1);
    asked("9999*9999=1000*1000", true);
    asked("9999*9999>1000*1000", false);
    asked("9999*9999#1000*1000", false);
    asked("-9999*9999=-1000*1000", true);
    asked("-9999*9999<-1000*1000", false);
    asked("9999*100+99<1000*1000", true);
  }

  private static void asked(String ask, boolean due) {
    CHECK.due(ask, ruled(1, "falls " + ask + ";").thing(1, 0), due ? 1 : 0);
  }

  private static void quotients() {
    value("7/2", 3);
    value("8/2", 4);
    value("1/2", 0);
    value("0/5", 0);
    value("5+(0-1)/2", 5);
    value("5+(0-3)/2", 4);
    value("5+3/(0-2)", 4);
    value("5+(0-3)/(0-2)", 6);
    value("5+(0-4)/2", 3);
    value("5+1/0", 5);
    value("5+0/0", 5);
    value("5+(0-1)/0", 5);
    value("5+1/(2-2)*3", 5);
    value("5+9999*9999/0", 5);
    value("9999*9999/(9999*9999)", 1);
  }

  /** From the hour on, 48 hours at most; the last hour to go is the one ahead of the last. */
  private static void voyages() {
    SeaWithStairs x = ruled(3, "takes 100-hour;");
    int[] due = {53, 48, 47};
    for (int i = 0; i < 3; i++) {
      CHECK.due("the last of 48 hours, " + i, x.voyage(1, 0, 1, 48, i - 2), due[i]);
    }
    CHECK.due("none of the 49th", x.voyage(1, 0, 1, 49, -2), -100);
    CHECK.due("the last two of 48", x.voyage(1, 0, 2, 48, -2), 53 + 54);
    CHECK.due("the upper one", x.voyage(1, 0, 2, 48, 0), 46);
    CHECK.due("the lower one", x.voyage(1, 0, 2, 48, 1), 47);
    CHECK.due("one hour", x.voyage(1, 1, 2, 1, -2), 100);
    CHECK.due("two hours for two", x.voyage(1, 0, 2, 2, -2), 199);
    CHECK.due("at once", x.voyage(1, 0, 2, 2, 0), 0);
    CHECK.due("one hour for two", x.voyage(1, 0, 2, 1, -2), -100);
    x.hour(60);
    CHECK.due("tolls are 0 at least", x.voyage(1, 0, 1, 48, -2), 0);
    CHECK.due("from the hour on", x.voyage(1, 0, 1, 48, 0), 40);
    CHECK.due("and comes", x.voyage(1, 0, 1, 48, -1), 41);
  }

  private static void greatestAnswers() {
    SeaWithStairs x = ruled(9, "takes 9999;hauls 9999;wears 0;");
    for (int i = 0; i < 7; i++) {
      x.ship(99, 0, 8);
    }
    CHECK.due("a voyage", x.voyage(99, 0, 8, 48, -2), 8 * 9999);
    CHECK.due("comes in", x.voyage(99, 0, 8, 48, -1), 8);
    CHECK.due("haulings", x.hauling(7, 0b1111, 0b1110000, -1), 4 * 9999);
    CHECK.due("states", x.states(0, -1), 9 * 9 * 9999);
    CHECK.due("states less 36 pairs", x.states(999, -1), 9 * 9 * 9999 - 36 * 999);
    CHECK.due("the first comes in 8", x.comes(0), 8);
    CHECK.due("the last comes in 14", x.comes(6), 14);
    CHECK.due("so does all the run", x.run(false), 14);
    CHECK.due("who is last", x.run(true), 6);
    CHECK.due("passages", x.hour(14), 56);
    CHECK.due("of which 40 are in the book", x.book(-1, 0), 40);
    CHECK.due("paid", x.ofShip(6, 3), 8 * 9999);
    CHECK.due("all are there", x.run(false), 0);
    CHECK.due("the lowest is last", x.run(true), 0);
  }

  private static void sillsToRaise() {
    int[] sills = {0, 98, 98, 99, 99, 0};
    int[] waters = {0, 980, 981, 990, 991, 991};
    int[] due = {0, 98, 99, 99, -1, -1};
    for (int i = 0; i < sills.length; i++) {
      SeaWithStairs x = new SeaWithStairs();
      x.step(1, sills[i], waters[i], 0);
      CHECK.due("sill " + sills[i] + ", water " + waters[i], x.toRaise(0), due[i]);
      CHECK.due("its sill stays", x.ofStep(0, 1), sills[i]);
    }
  }
}
