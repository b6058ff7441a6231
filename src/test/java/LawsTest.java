/** What laws say (Terms II), asked by way of promises 9, 17, 24, 25, 26 and 29. */
public final class LawsTest {
  private static final Check CHECK = new Check();

  public static void main(String[] args) {
    sums();
    bounds();
    namesOfTheStep();
    namesBeside();
    asks();
    boundsOfLaws();
    withoutText();
    lawsOfOtherClauses();
    CHECK.end("laws");
  }

  /** What one step, the middle of three, takes of a weight 10 (0 at least, 9999 at most). */
  private static int takes(String sum) {
    SeaWithStairs x = threeSteps();
    CHECK.due("takes " + sum, Check.text(x, "takes " + sum + ";"), 0);
    x.by(0);
    return x.voyage(10, 1, 2, 1, -2);
  }

  private static SeaWithStairs threeSteps() {
    SeaWithStairs x = new SeaWithStairs();
    x.step(11, 12, 13, 14);
    x.step(21, 22, 23, 24);
    x.step(31, 32, 33, 34);
    return x;
  }

  private static void due(String sum, int want) {
    CHECK.due("takes " + sum, takes(sum), want);
  }

  private static void sums() {
    due("1+2*3", 7);
    due("10-2-3", 5);
    due("100/10/5", 2);
    due("100/(10/5)", 50);
    due("7/2*2", 6);
    due("9-7/2", 6);
    due("7/0", 0);
    due("7/(1-1)+5", 5);
    due("10-(-7)/2", 13);
    due("10+-7/2", 7);
    due("10+7/-2", 7);
    due("10-(0-7)/2", 13);
    due("--5", 5);
    due("20+-5*2", 10);
    due("5--5", 10);
    due("(2+3)*(4-1)", 15);
    due("007", 7);
    due("9999", 9999);
  }

  private static void bounds() {
    // 9999 * 9999 is cut to 1000000, each time.
    due("9999*9999/1000", 1000);
    due("9999*9999-9999*100-99", 1);
    due("-9999*9999+9999*100+101", 1);
    due("(9999*100+9999)-9999*100-99", 1);
    due("(-9999*100-9999)+9999*100+101", 1);
    due("(100*9999+100)/1000", 1000);

  }

  private static void namesOfTheStep() {
    due("hour", 0);
    due("step", 1);
    due("high", 21);
    due("sill", 22);
    due("water", 23);
    due("fish", 24);
    due("worn", 0);
    due("weight", 10);
    SeaWithStairs x = threeSteps();
    x.ship(30, 1, 2);
    x.ship(7, 2, 1);
    Check.text(x, "takes weight*100+worn*10+hour;hauls weight*100+other+hour*10;wears weight;");
    x.by(0);
    x.hour(1);
    CHECK.due("takes ahead of the rope's wear", x.ofShip(0, 3), 3000);
    CHECK.due("hauls", x.ofShip(1, 3), 730);
    CHECK.due("wears by both weights", x.ofStep(1, 4), 37);
    CHECK.due("takes of worn, at hour 1", x.voyage(2, 1, 2, 1, -2), 571);
    x.bind(0, 1);
    x.hour(1);
    CHECK.due("hauls with none down", x.ofShip(0, 3), 6010);
    CHECK.due("wears by one weight", x.ofStep(1, 4), 67);
    x.mend(1);
    x.bind(0, 2);
    x.hour(1);
    CHECK.due("wears by the one down", x.ofStep(1, 4), 30);
  }

  private static void namesBeside() {
    due("above high", 11);
    due("above sill", 12);
    due("above water", 13);
    due("above fish", 14);
    due("below high", 31);
    due("below sill", 32);
    due("below water", 33);
    due("below fish", 34);
    SeaWithStairs x = threeSteps();
    x.ship(1, 0, 2);
    Check.text(x, "wears 6;takes 100+above worn*10+below worn;flows above water+below water;");
    x.by(0);
    CHECK.due("none above", x.ofStep(0, 6), 13);
    CHECK.due("water at most", x.ofStep(1, 6), 23);
    CHECK.due("none below", x.ofStep(2, 6), 23);
    for (int i = 3; i < 9; i++) {
      x.step(1, 1, 500, 1);
    }
    CHECK.due("none below nine", x.ofStep(8, 6), 500);
    CHECK.due("all below eight", x.ofStep(7, 6), 500);
    x.flood(8, 77);
    CHECK.due("above nine", x.ofStep(8, 6), 500);
    x.hour(2);
    x.bind(0, 0);
    CHECK.due("worn above", x.voyage(1, 1, 2, 1, -2), 160);
    CHECK.due("worn below", x.voyage(1, 0, 1, 1, -2), 106);
    CHECK.due("a last step too", x.states(0, 2), 0);
  }

  /** Whether a thing of a weight 10 goes on over the sill of the middle one of three steps. */
  private static void asked(String ask, boolean want) {
    SeaWithStairs x = threeSteps();
    CHECK.due("falls " + ask, Check.text(x, "falls " + ask + ";"), 0);
    x.by(0);
    CHECK.due("falls " + ask, x.thing(10, 1) > 1, want);
  }

  private static void asks() {
    asked("1<2", true);
    asked("2<2", false);
    asked("2<=2", true);
    asked("3<=2", false);
    asked("2>1", true);
    asked("2>2", false);
    asked("2>=2", true);
    asked("1>=2", false);
    asked("2=2", true);
    asked("2=1", false);
    asked("2#1", true);
    asked("2#2", false);
    asked("not 2#2", true);
    asked("not not 2#2", false);
    asked("1=1 or 1=1 and 1=2", true);
    asked("1=2 and 1=1 or 1=1", true);
    asked("1=2 and 1=1 or 1=2", false);
    asked("not 1=1 or 1=1", true);
    asked("not 1=2 and 1=2", false);
    asked("1=2 or 1=2 or 1=1", true);
    asked("1=1 and 1=1 and 1=2", false);
    for (String one : new String[] {"1<2", "1<=2", "2>1", "2>=1", "1=1", "1#2", "not 1=2"}) {
      for (String other : new String[] {"1<2", "1<=2", "2>1", "2>=1", "1=1", "1#2", "not 1=2"}) {
        asked(one + " and " + other, true);
        asked("not " + one + " or not " + other, false);
        asked("not " + one + " or " + other, true);
        asked(one + " and not " + other, false);
      }
    }
    asked("weight+1=11", true);
    asked("water*2=46", true);
    asked("below water-above water=20", true);
    asked("step=1 and hour=0", true);
  }

  private static void boundsOfLaws() {
    due("0-5", 0);
    due("9999+1", 9999);
    SeaWithStairs x = threeSteps();
    x.ship(30, 0, 1);
    x.ship(7, 1, 0);
    Check.text(x, "takes 9999*9;hauls 9999*9;wears 0-9;flows 0-9;");
    Check.text(x, "takes 0-9;hauls 0-9;wears 101;flows 9999;");
    x.by(0);
    CHECK.due("flows 0 at least", x.ofStep(0, 6), 0);
    CHECK.due("hauls 9999 at most", x.hauling(0, 2, 1, -1), 9999);
    x.hour(1);
    CHECK.due("takes 9999 at most", x.ofShip(0, 3), 9999);
    CHECK.due("wears 0 at least", x.ofStep(0, 4), 0);
    x.by(1);
    CHECK.due("flows water at most", x.ofStep(0, 6), 13);
    CHECK.due("hauls 0 at least", x.hauling(0, 2, 1, -1), 0);
    x.bind(0, 0);
    x.hour(1);
    CHECK.due("wears 100 at most", x.ofStep(0, 4), 100);
  }

  private static void withoutText() {
    SeaWithStairs x = new SeaWithStairs();
    x.step(20, 3, 31, 0);
    x.step(20, 3, 30, 0);
    x.ship(9, 1, 0);
    x.ship(4, 0, 1);
    CHECK.due("flows", x.ofStep(0, 6), 1);
    CHECK.due("flows not", x.ofStep(1, 6), 0);
    CHECK.due("falls, and falls not", x.thing(1, 0), 1);
    CHECK.due("hauls", x.hauling(0, 1, 2, -1), 100);
    CHECK.due("hauls 0 at least", x.hauling(0, 2, 1, -1), 0);
    CHECK.due("takes", x.voyage(99, 0, 1, 1, -2), 3);
    x.hour(1);
    CHECK.due("wears", x.ofStep(0, 4), 1);
  }

  private static void lawsOfOtherClauses() {
    SeaWithStairs x = threeSteps();
    Check.text(x, "wears 9;");
    x.by(0);
    CHECK.due("a text without takes", x.voyage(10, 1, 2, 1, -2), 22);
    CHECK.due("a text without flows", x.ofStep(1, 6), 0);
    CHECK.due("a text without falls", x.thing(1, 1), 1);
    x.ship(5, 1, 0);
    CHECK.due("a text without hauls", x.hauling(0, 1, 0, -1), 55);
  }
}
