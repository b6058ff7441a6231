/**
 * Where something is full or empty: the last one that is taken, the first one that isn't, what stands behind it then,
 * and that there is room again when something is gone. (That nothing else is changed: BoundsTest.)
 */
public final class FullTest {
  private static final Check CHECK = new Check();

  public static void main(String[] args) {
    nineSteps();
    sevenShips();
    tapeOf300();
    fourTexts();
    clauses24();
    hour9999();
    hours9999Played();
    acts30();
    acts30OfEachKind();
    actsRoundAndRound();
    book40();
    bookOfTwoAtOnce();
    sounds8();
    wrecks10();
    misheard15();
    emptyTexts();
    emptySea();
    calls512();
    CHECK.end("full and empty");
  }

  private static void nineSteps() {
    SeaWithStairs x = new SeaWithStairs();
    for (int i = 0; i < 8; i++) {
      CHECK.due("step " + i, x.step(10 + i, i, i, i), i);
    }
    x.image();
    CHECK.due("the ninth", x.step(18, 8, 8, 8), 8);
    CHECK.due("the tenth", x.step(99, 9, 9, 9), -1);
    CHECK.due("nine", x.about(0), 9);
    for (int i = 0; i < 9; i++) {
      CHECK.due("high of " + i, x.ofStep(i, 0), 10 + i);
      CHECK.due("sill of " + i, x.ofStep(i, 1), i);
    }
    CHECK.due("none of the tenth", x.ofStep(9, 0), -1);
    x.back();
    CHECK.due("eight again", x.about(0), 8);
    CHECK.due("room for one", x.step(99, 9, 9, 9), 8);
    CHECK.due("of it", x.ofStep(8, 0), 99);
    CHECK.due("and no more", x.step(99, 9, 9, 9), -1);
  }

  private static void sevenShips() {
    SeaWithStairs x = new SeaWithStairs();
    x.step(1, 0, 0, 0);
    x.step(1, 0, 0, 0);
    for (int i = 0; i < 6; i++) {
      CHECK.due("ship " + i, x.ship(10 + i, 0, 1), i);
    }
    x.image();
    CHECK.due("the seventh", x.ship(16, 0, 1), 6);
    CHECK.due("the eighth", x.ship(99, 1, 0), -1);
    CHECK.due("seven", x.about(1), 7);
    CHECK.due("ships on 0", x.ofStep(0, 5), 127);
    CHECK.due("ships on 1", x.ofStep(1, 5), 0);
    CHECK.due("they wait", x.waiting(0, true), 127);
    CHECK.due("the last comes last", x.run(true), 6);
    CHECK.due("in seven hours", x.run(false), 7);
    x.back();
    CHECK.due("room for one", x.ship(99, 1, 0), 6);
    CHECK.due("of it", x.ofShip(6, 0), 99);
    CHECK.due("and no more", x.ship(99, 1, 0), -1);
  }

  private static int blanks(SeaWithStairs x) {
    return x.feed(0x20202020, 0x20202020, 0x20202020, 0x20202020, 0x20202020);
  }

  private static void tapeOf300() {
    SeaWithStairs x = new SeaWithStairs();
    for (int i = 1; i <= 15; i++) {
      CHECK.due("feed " + i, blanks(x), 20 * i);
    }
    CHECK.due("320", blanks(x), -1);
    CHECK.due("none came", x.about(8), 300);
    CHECK.due("301", x.end(301), -1);
    CHECK.due("all", x.end(300), 300);
    for (int n = 299; n > 280; n--) {
      x.end(n);
      CHECK.due("twenty more than " + n, blanks(x), -1);
      CHECK.due("none came", x.about(8), n);
    }
    x.end(280);
    CHECK.due("twenty more than 280", x.feed(0x74616b65, 0x73206869, 0x67682020, 0x20202020, 0x2020203b), 300);
    CHECK.due("a text of 300 bytes", x.text(), 0);
    CHECK.due("no byte of it on the tape", x.about(8), 0);
    CHECK.due("none to keep", x.end(1), -1);
    Check.tape(x, " ".repeat(300));
    x.end(280);
    x.feed(0x74616b65, 0x73206869, 0x67682020, 0x20202020, 0x20202020);
    CHECK.due("300 bytes without an end", x.text(), -1);
    CHECK.due("fault", x.fault(0), 1);
    CHECK.due("at the length", x.fault(1), 300);
    Check.tape(x, "takes 1;takes");
    x.end(8);
    CHECK.due("what is behind the end is gone", x.text(), 1);
    x.end(0);
    blanks(x);
    CHECK.due("for good", x.text(), 2);
  }

  private static void fourTexts() {
    SeaWithStairs x = new SeaWithStairs();
    x.step(5, 50, 0, 0);
    x.step(5, 50, 0, 0);
    for (int i = 0; i < 3; i++) {
      CHECK.due("text " + i, Check.text(x, "takes 1" + i + ";"), i);
    }
    x.image();
    CHECK.due("a fault", Check.text(x, "takes 1"), -1);
    CHECK.due("is no text", x.about(2), 3);
    CHECK.due("the fourth", Check.text(x, "takes 13;"), 3);
    Check.tape(x, "takes 14;");
    CHECK.due("the fifth", x.text(), -1);
    CHECK.due("its tape stays", x.about(8), 9);
    CHECK.due("without a fault", x.fault(0), 0);
    Check.tape(x, "takes takes;");
    CHECK.due("a fifth with a fault", x.text(), -1);
    CHECK.due("its tape stays", x.about(8), 12);
    CHECK.due("it wasn't read", x.fault(0), 0);
    CHECK.due("nor its place", x.fault(1), -1);
    for (int i = 0; i < 4; i++) {
      CHECK.due("by " + i, x.by(i), true);
      CHECK.due("its toll", x.voyage(1, 0, 1, 1, -2), 10 + i);
    }
    CHECK.due("by the fifth", x.by(4), false);
    CHECK.due("the fourth rules", x.voyage(1, 0, 1, 1, -2), 13);
    CHECK.due("the fifth can't be played", x.played(4), -2);
    x.back();
    CHECK.due("three", x.about(2), 3);
    CHECK.due("the tape is as it was", x.about(8), 12);
    CHECK.due("now it is read", x.text(), -1);
    CHECK.due("its fault", x.fault(0), 1);
    CHECK.due("its place", x.fault(1), 6);
    CHECK.due("its tape is empty", x.about(8), 0);
    CHECK.due("there is no fourth", x.by(3), false);
    CHECK.due("room for one", Check.text(x, "takes 15;"), 3);
    x.by(3);
    CHECK.due("its toll", x.voyage(1, 0, 1, 1, -2), 15);
  }

  private static void clauses24() {
    SeaWithStairs x = new SeaWithStairs();
    String most = "takes 1;hauls 1;wears 1;flows 1;falls 1=1;" + "hour 1;".repeat(18) + "hour 2;";
    CHECK.due("24", Check.text(x, most), 0);
    CHECK.due("all are played", x.played(0), -1);
    CHECK.due("hours", x.is(0), 20);
    CHECK.due("25", Check.text(x, most + "\n hour 1;"), -1);
    CHECK.due("fault", x.fault(0), 6);
    CHECK.due("at its first token", x.fault(1), most.length() + 2);
    CHECK.due("blanks behind 24", Check.text(x, most + " \n\n "), 1);
    CHECK.due("23 and a bad one", Check.text(x, "hour 1;".repeat(23) + "mend 8;"), 2);
    CHECK.due("its number", x.played(2), 23);
    CHECK.due("those ahead of it were done", x.is(0), 43);
  }

  private static SeaWithStairs atHour(int hour) {
    SeaWithStairs x = new SeaWithStairs();
    x.step(1, 0, 0, 0);
    x.step(1, 0, 0, 0);
    Check.text(x, "hour 60;".repeat(23));
    for (int i = 0; i < 7; i++) {
      x.played(0);
    }
    while (hour - x.is(0) > 60) {
      x.hour(60);
    }
    if (x.is(0) < hour) {
      x.hour(hour - x.is(0));
    }
    CHECK.due("the hour", x.is(0), hour);
    return x;
  }

  private static void hour9999() {
    CHECK.due("60 from 9939", atHour(9939).hour(60), 0);
    SeaWithStairs x = atHour(9940);
    x.ship(1, 0, 1);
    CHECK.due("60 from 9940", x.hour(60), -1);
    CHECK.due("nothing is done", x.is(0), 9940);
    CHECK.due("no ship passed", x.ofShip(0, 1), 0);
    CHECK.due("58", x.hour(58), 1);
    CHECK.due("two from 9998", x.hour(2), -1);
    CHECK.due("nothing is done", x.is(0), 9998);
    CHECK.due("one", x.hour(1), 0);
    CHECK.due("9999", x.is(0), 9999);
    CHECK.due("one more", x.hour(1), -1);
    CHECK.due("9999 still", x.is(0), 9999);
    CHECK.due("what is no hour can be done", x.bind(0, 0), true);
    CHECK.due("and foretold", x.foretoldShip(1, 0, 0), 0);
    CHECK.due("when it comes", x.comes(0), 1);
    CHECK.due("and when all come", x.run(false), 1);
    CHECK.due("centuries stay", x.centuries(0, 1), 9999);
    CHECK.due("no ship passed", x.ofShip(0, 1), 1);
    x.undo();
    CHECK.due("the goal is back", x.undo(), 28);
    CHECK.due("an hour is back", x.undo(), 27);
    CHECK.due("9998", x.is(0), 9998);
    CHECK.due("centuries of an hour", x.centuries(0, 1), 9999);
    // 83 is the X of an hour; by 3 seeds more it is 89, of an hour and a flood.
    CHECK.due("what is no hour goes on", x.centuries(3, 2), 9999);
    CHECK.due("flooded", x.ofStep(0, 2), 69);
  }

  private static void hours9999Played() {
    SeaWithStairs x = atHour(9998);
    Check.text(x, "hour 2;flood 0 by 7;");
    Check.text(x, "hour 1;flood 0 by 7;hour 1;flood 0 by 7;");
    Check.text(x, "flood 0 by 3;");
    x.image();
    CHECK.due("two hours", x.played(1), 0);
    CHECK.due("one can pass", x.is(0), 9999);
    CHECK.due("nothing behind it is done", x.ofStep(0, 2), 0);
    CHECK.due("none can pass", x.played(1), 0);
    CHECK.due("an act for the one", x.about(4), 30);
    x.back();
    CHECK.due("one hour and one", x.played(2), 2);
    CHECK.due("9999", x.is(0), 9999);
    CHECK.due("what is ahead of it is done", x.ofStep(0, 2), 7);
    CHECK.due("what is no hour", x.played(3), -1);
    CHECK.due("water", x.ofStep(0, 2), 10);
  }

  private static void acts30() {
    SeaWithStairs x = new SeaWithStairs();
    x.step(1, 99, 0, 0);
    CHECK.due("none", x.undo(), -1);
    for (int i = 1; i <= 30; i++) {
      x.flood(0, 1);
      CHECK.due("acts", x.about(4), i);
    }
    SeaWithStairs y = new SeaWithStairs();
    y.step(1, 99, 0, 0);
    for (int left = 29; left >= 0; left--) {
      CHECK.due("of thirty", x.undo(), left);
      CHECK.due("water", x.ofStep(0, 2), left);
    }
    CHECK.due("no more", x.undo(), -1);
    for (int i = 1; i <= 31; i++) {
      y.flood(0, 1);
    }
    CHECK.due("of 31 the latest 30", y.about(4), 30);
    for (int left = 29; left >= 0; left--) {
      CHECK.due("of 31", y.undo(), left);
      CHECK.due("water", y.ofStep(0, 2), left + 1);
    }
    CHECK.due("the first can't be taken back", y.undo(), -1);
    CHECK.due("nor is it", y.ofStep(0, 2), 1);
  }

  /** Thirty hours, and one act of each kind behind them: each pushes out one. */
  private static void acts30OfEachKind() {
    for (int kind = 0; kind < 7; kind++) {
      SeaWithStairs x = new SeaWithStairs();
      x.step(1, 0, 0, 0);
      x.step(1, 0, 0, 0);
      x.ship(1, 0, 0);
      Check.text(x, "hour 2;flood 0 by 1;");
      x.hour(30);
      CHECK.due("thirty", x.about(4), 30);
      switch (kind) {
        case 0 -> CHECK.due("hour", x.hour(1), 0);
        case 1 -> CHECK.due("flood", x.flood(0, 1), 1);
        case 2 -> CHECK.due("raise", x.raise(0, 1), true);
        case 3 -> CHECK.due("mend", x.mend(0), 0);
        case 4 -> CHECK.due("bind", x.bind(0, 1), true);
        case 5 -> CHECK.due("centuries", x.centuries(3, 40) > 30, true);
        default -> CHECK.due("played", x.played(0), -1);
      }
      CHECK.due("thirty still", x.about(4), 30);
      int pushed = kind == 6 ? 3 : 1;
      for (int left = 29; left >= 0; left--) {
        CHECK.due("taken back, kind " + kind, x.undo(), left);
      }
      CHECK.due("the hour ahead of those, kind " + kind, x.is(0), pushed);
      CHECK.due("none", x.undo(), -1);
    }
  }

  private static void actsRoundAndRound() {
    SeaWithStairs x = new SeaWithStairs();
    x.step(1, 0, 0, 0);
    int hour = 0;
    int acts = 0;
    for (int round = 1; round <= 12; round++) {
      x.hour(round);
      hour += round;
      acts = Math.min(30, acts + round);
      for (int i = 0; i < round / 2 + 1; i++) {
        hour--;
        acts--;
        CHECK.due("back in round " + round, x.undo(), acts);
      }
      CHECK.due("hour in round " + round, x.is(0), hour);
      CHECK.due("acts in round " + round, x.about(4), acts);
    }
    x.hour(60);
    for (int i = 0; i < 30; i++) {
      x.undo();
    }
    CHECK.due("thirty back", x.is(0), hour + 30);
    CHECK.due("none", x.undo(), -1);
  }

  private static SeaWithStairs passages(int n) {
    SeaWithStairs x = new SeaWithStairs();
    x.step(1, 0, 0, 0);
    x.step(1, 0, 0, 0);
    Check.text(x, "wears 0;");
    x.by(0);
    x.ship(1, 0, 0);
    x.ship(1, 1, 1);
    for (int i = 1; i <= n; i++) {
      x.bind(0, i % 2);
      x.hour(1);
    }
    return x;
  }

  private static void book40() {
    SeaWithStairs x = passages(0);
    CHECK.due("no passage", x.book(-1, 0), 0);
    CHECK.due("no first", x.book(0, 0), -2);
    x = passages(39);
    CHECK.due("39", x.book(-1, 0), 39);
    CHECK.due("the 40th isn't yet", x.book(39, 0), -2);
    x = passages(40);
    CHECK.due("40", x.book(-1, 0), 40);
    CHECK.due("the eldest", x.book(0, 0), 0);
    CHECK.due("the latest", x.book(39, 0), 39);
    CHECK.due("its step", x.book(39, 2), 0);
    CHECK.due("no 41st", x.book(40, 0), -2);
    x = passages(41);
    CHECK.due("40 still", x.book(-1, 0), 40);
    CHECK.due("the eldest but one", x.book(0, 0), 1);
    CHECK.due("its step", x.book(0, 2), 0);
    CHECK.due("the latest", x.book(39, 0), 40);
    CHECK.due("its step", x.book(39, 2), 1);
    CHECK.due("no 41st", x.book(40, 0), -2);
    x.undo();
    CHECK.due("40 as they were", x.book(-1, 0), 40);
    CHECK.due("the eldest is there again", x.book(0, 0), 0);
    CHECK.due("the latest", x.book(39, 0), 39);
  }

  private static void bookOfTwoAtOnce() {
    SeaWithStairs x = passages(39);
    CHECK.due("ship 0 is below", x.ofShip(0, 1), 1);
    x.bind(0, 0);
    x.ship(1, 0, 1);
    CHECK.due("two", x.hour(1), 2);
    CHECK.due("40", x.book(-1, 0), 40);
    CHECK.due("the eldest but one", x.book(0, 0), 1);
    CHECK.due("the one down", x.book(38, 1), 2);
    CHECK.due("the one up", x.book(39, 1), 0);
  }

  private static void sounds8() {
    SeaWithStairs x = new SeaWithStairs();
    for (int i = 1; i <= 8; i++) {
      CHECK.due("sound " + i, x.sound(8, 20), i);
    }
    CHECK.due("the ninth", x.sound(8, 21), -2);
    CHECK.due("of another step", x.sound(7, 21), -2);
    CHECK.due("eight", x.about(5), 8);
    CHECK.due("the ninth wasn't told", x.high(8, false), 40);
    CHECK.due("nor that of another step", x.high(7, false), 1);
    CHECK.due("none any more", x.sound(-1, 21), 0);
    CHECK.due("may be all", x.high(8, false), 1);
    CHECK.due("the first anew", x.sound(8, 21), 1);
    CHECK.due("it alone", x.high(8, true), 48);
  }

  private static void wrecks10() {
    SeaWithStairs x = new SeaWithStairs();
    for (int i = 1; i <= 10; i++) {
      CHECK.due("wreck " + i, x.wreck(10 - i), i);
    }
    CHECK.due("the eleventh", x.wreck(99), -2);
    CHECK.due("ten", x.about(6), 10);
    CHECK.due("it wasn't told", x.inOrder(-1), 1);
    CHECK.due("all are out of order", x.outOfOrder(), 45);
    CHECK.due("none any more", x.wreck(-1), 0);
    CHECK.due("none in order", x.inOrder(-1), 0);
    CHECK.due("no first", x.inOrder(0), -2);
    CHECK.due("none out of order", x.outOfOrder(), 0);
    CHECK.due("the first anew", x.wreck(50), 1);
    CHECK.due("it alone", x.inOrder(0), 50);
    for (int i = 2; i <= 10; i++) {
      x.wreck(50 + i);
    }
    CHECK.due("ten in order", x.inOrder(-1), 10);
    CHECK.due("the tenth", x.inOrder(9), 60);
    CHECK.due("no eleventh", x.inOrder(10), -2);
  }

  private static void misheard15() {
    SeaWithStairs x = new SeaWithStairs();
    for (int i = 1; i <= 9; i++) {
      CHECK.due("misheard " + i, x.misheard(0, i), i);
    }
    for (int i = 10; i <= 15; i++) {
      CHECK.due("misheard " + i, x.misheard(1, i - 8), i);
    }
    CHECK.due("the sixteenth", x.misheard(8, 9), -2);
    CHECK.due("fifteen", x.about(7), 15);
    CHECK.due("the fifteenth was told", x.apart(8), 0b11111100);
    CHECK.due("the sixteenth wasn't", x.apart(10), 0b1111111100);
    CHECK.due("one chain", x.chains(10), 1);
    CHECK.due("none any more", x.misheard(-1, 9), 0);
    CHECK.due("all are apart", x.apart(10), 0b1111111111);
    CHECK.due("each on its own", x.chains(10), 10);
    CHECK.due("the first anew", x.misheard(8, 9), 1);
    CHECK.due("it alone", x.apart(10), 0b0111111111);
    CHECK.due("nine parts", x.chains(10), 9);
  }

  private static void emptyTexts() {
    SeaWithStairs x = new SeaWithStairs();
    x.step(1, 7, 0, 0);
    x.step(1, 7, 0, 0);
    CHECK.due("an empty tape is a text", x.text(), 0);
    CHECK.due("without a fault", x.fault(0), 0);
    CHECK.due("played", x.played(0), -1);
    CHECK.due("it may rule", x.by(0), true);
    CHECK.due("without laws", x.voyage(1, 0, 1, 1, -2), 7);
    Check.tape(x, "takes 5;");
    CHECK.due("all is cut off", x.end(0), 0);
    CHECK.due("an empty text again", x.text(), 1);
    CHECK.due("blanks alone", Check.text(x, "\n \n"), 2);
    CHECK.due("played", x.played(2), -1);
  }

  private static void emptySea() {
    SeaWithStairs x = new SeaWithStairs();
    CHECK.due("hours without steps", x.hour(60), 0);
    CHECK.due("they pass", x.is(0), 60);
    CHECK.due("and are acts", x.about(4), 30);
    CHECK.due("nothing goes out", x.is(1) + x.is(2), 0);
    CHECK.due("nobody passes", x.book(-1, 0), 0);
    CHECK.due("a sound of a step that isn't there", x.sound(8, 31), 1);
    CHECK.due("its height", x.high(8, false), 97);
    CHECK.due("back to the first image", x.back(), 0);
    CHECK.due("no acts", x.undo(), -1);
    CHECK.due("no sound", x.about(5), 0);
    x.step(1, 0, 5, 5);
    CHECK.due("hours without ships", x.hour(2), 0);
    CHECK.due("water goes out", x.is(1), 5);
  }

  /** The last of 512 calls is answered as the first. */
  private static void calls512() {
    SeaWithStairs x = new SeaWithStairs();
    x.step(1, 99, 400, 0);
    for (int call = 2; call <= 511; call++) {
      CHECK.due("call " + call, x.flood(0, 1), 399 + call);
    }
    CHECK.due("call 512", x.flood(0, 999), 999);
    SeaWithStairs y = new SeaWithStairs();
    y.step(1, 0, 0, 0);
    y.step(1, 0, 0, 0);
    y.ship(1, 0, 1);
    for (int call = 4; call <= 511; call++) {
      CHECK.due("call " + call, y.centuries(9999, 40) > 0, true);
    }
    CHECK.due("call 512", y.undo(), 29);
  }
}
