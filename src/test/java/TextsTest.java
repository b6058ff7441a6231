/** Promises 4, 5, 6, 7, 8, 14: the tape, texts and their faults, what rules and what is played. */
public final class TextsTest {
  private static final Check CHECK = new Check();

  public static void main(String[] args) {
    promise4Feed();
    promise5End();
    promise6Text();
    promise7Fault();
    faultsOfPlace();
    faultsOfBytes();
    faultsAtTheLastByte();
    faultsOfNumbers();
    faultsOfNesting();
    faultsOfNamesAndClauses();
    textsThatStand();
    promise8By();
    promise14Played();
    promise14PlayedHours();
    faultsLeaveNothing();
    CHECK.end("texts");
  }

  private static void promise4Feed() {
    SeaWithStairs x = new SeaWithStairs();
    // "wears 1/", "(2-0)   ", "  ;;": the highest byte of each first.
    CHECK.due("twenty", x.feed(0x77656172, 0x7320312f, 0x28322d30, 0x29202020, 0x20203b3b), 20);
    CHECK.due("the last byte stands not", x.text(), -1);
    CHECK.due("fault", x.fault(0), 1);
    CHECK.due("place", x.fault(1), 19);
    for (int i = 1; i <= 15; i++) {
      CHECK.due("feed " + i, x.feed(-1, 0, 0, 0, 0), 20 * i);
    }
    CHECK.due("321", x.feed(0, 0, 0, 0, 0), -1);
    CHECK.due("none came", x.about(8), 300);
    x.end(281);
    CHECK.due("301", x.feed(0, 0, 0, 0, 0), -1);
    CHECK.due("none came", x.about(8), 281);
    x.end(280);
    CHECK.due("300", x.feed(0, 0, 0, 0, 0), 300);
  }

  private static void promise5End() {
    SeaWithStairs x = new SeaWithStairs();
    CHECK.due("0 of 0", x.end(0), 0);
    CHECK.due("1 of 0", x.end(1), -1);
    Check.tape(x, "hour 5; what");
    CHECK.due("21", x.end(21), -1);
    CHECK.due("-1", x.end(-1), -1);
    CHECK.due("nothing done", x.about(8), 12);
    CHECK.due("7", x.end(7), 7);
    CHECK.due("bytes", x.about(8), 7);
    CHECK.due("8", x.end(8), -1);
    CHECK.due("stands", x.text(), 0);
  }

  private static void promise6Text() {
    SeaWithStairs x = new SeaWithStairs();
    CHECK.due("an empty text", x.text(), 0);
    CHECK.due("blanks", Check.text(x, " \n "), 1);
    CHECK.due("the tape is empty then", x.about(8), 0);
    CHECK.due("a fault", Check.text(x, "hour 5"), -1);
    CHECK.due("the tape is empty then too", x.about(8), 0);
    CHECK.due("two texts", x.about(2), 2);
    CHECK.due("the third", Check.text(x, "hour 5;"), 2);
    CHECK.due("the fourth", Check.text(x, "hour 6;"), 3);
    CHECK.due("the fifth", Check.text(x, "hour 7;"), -1);
    CHECK.due("the tape stays", x.about(8), 7);
    CHECK.due("four texts", x.about(2), 4);
    StringBuilder longest = new StringBuilder("takes 1");
    while (longest.length() < 299) {
      longest.append(longest.length() % 2 == 1 ? '+' : '1');
    }
    longest.append(';');
    SeaWithStairs y = new SeaWithStairs();
    CHECK.due("300 bytes", longest.length(), 300);
    CHECK.due("the longest", Check.text(y, longest.toString()), 0);
    y.step(1, 1, 1, 1);
    y.by(0);
    y.states(0, -1);
    CHECK.due("its sum", y.states(0, -1), 147);
  }

  private static void promise7Fault() {
    SeaWithStairs x = new SeaWithStairs();
    CHECK.due("ahead of any", x.fault(0), -1);
    CHECK.due("place ahead of any", x.fault(1), -1);
    Check.text(x, "hour 61;");
    CHECK.due("fault", x.fault(0), 2);
    CHECK.due("place", x.fault(1), 5);
    CHECK.due("what 2", x.fault(2), -1);
    CHECK.due("what -1", x.fault(-1), -1);
    Check.text(x, "hour 60;");
    CHECK.due("without", x.fault(0), 0);
    CHECK.due("place without", x.fault(1), -1);
    x.back();
    CHECK.due("the image has none", x.fault(0), 0);
  }

  private static void fault(String text, int number, int place) {
    SeaWithStairs x = new SeaWithStairs();
    CHECK.due("text " + text, Check.text(x, text), -1);
    CHECK.due("fault of " + text, x.fault(0), number);
    CHECK.due("place of " + text, x.fault(1), place);
  }

  private static void faultsOfPlace() {
    fault("mend 1", 1, 6);
    fault("mend 1 \n ", 1, 9);
    fault("mend", 1, 4);
    fault("sill 1;", 1, 0);
    fault(" 12", 1, 1);
    fault("99999", 1, 0);
    fault(";", 1, 0);
    fault("Mend 1;", 1, 0);
    fault("mending 1;", 1, 0);
    fault("men 1;", 1, 0);
    fault("mendz 1;", 1, 0);
    fault("mendZ 1;", 1, 0);
    fault("menda 1;", 1, 0);
    fault("mendA 1;", 1, 0);
    fault("falls 1<=", 1, 9);
    fault("falls 1<", 1, 8);
    fault("mend -1;", 1, 5);
    fault("mend 1,", 1, 6);
    fault("mend 1 2;", 1, 7);
    fault("me nd 1;", 1, 0);
    fault("mend\n1\n0;", 1, 7);
    fault("takes 1 0;", 1, 8);
    fault("takes sill sill;", 1, 11);
    fault("takes sillsill;", 1, 6);
    fault("takes 1sill;", 1, 7);
    fault("takes sill1;", 1, 10);
    fault("mend! 1;", 1, 4);
    fault("mend\t1;", 1, 4);
    fault("mend 1;\0", 1, 7);
    fault("mend " + (char) 233 + ";", 1, 5);
    fault("step 1 sill 1 fish 1 water 1;", 1, 14);
    fault("ship 1 to 1;", 1, 7);
    fault("flood 1 to 1;", 1, 8);
    fault("raise 1 by 1;", 1, 8);
    fault("bind 1 on 1;", 1, 7);
    fault("takes ;", 1, 6);
    fault("takes 1<2;", 1, 7);
    fault("takes 1,2;", 1, 7);
    fault("takes 1 2;", 1, 8);
    fault("takes (1;", 1, 8);
    fault("takes 1);", 1, 7);
    fault("takes ();", 1, 7);
    fault("takes 1+;", 1, 8);
    fault("takes *1;", 1, 6);
    fault("takes takes;", 1, 6);
    fault("takes not 1;", 1, 6);
    fault("takes above;", 1, 11);
    fault("takes above 1;", 1, 12);
    fault("takes above above sill;", 1, 12);
    fault("takes below (sill);", 1, 12);
    fault("takes below sills;", 1, 12);
    fault("falls water;", 1, 11);
    fault("falls 1<2<3;", 1, 9);
    fault("falls (1<2);", 1, 8);
    fault("falls 1 < = 2;", 1, 10);
    fault("falls 1=<2;", 1, 8);
    fault("falls 1==2;", 1, 8);
    fault("falls 1<2 or;", 1, 12);
    fault("falls 1<2 and or 1<2;", 1, 14);
    fault("falls 1<2 not 1<2;", 1, 10);
    fault("falls not;", 1, 9);
    fault("falls -not 1<2;", 1, 7);
  }

  /** Every byte that begins no token, and every one that does but can't stand there. */
  private static void faultsOfBytes() {
    for (int sign = 0; sign < 256; sign++) {
      boolean blank = sign == ' ' || sign == '\n';
      if (!blank && !Character.isDigit(sign) && sign != '(' && sign != '-') {
        fault("takes " + (char) sign + ";", 1, 6);
      }
      if (!blank && sign != ';' && sign != '<' && sign != '>') {
        fault("falls 1=1" + (char) sign + "=1;", 1, Character.isDigit(sign) || isSum(sign) ? 10 : 9);
      }
      if (!blank) {
        fault("" + (char) sign, 1, 0);
      }
    }
  }

  private static boolean isSum(int sign) {
    return sign == '+' || sign == '-' || sign == '*' || sign == '/';
  }

  private static void faultsAtTheLastByte() {
    String blanks = " ".repeat(290);
    fault(blanks + "       men", 1, 297);
    fault(blanks + "      mend", 1, 300);
    fault(blanks + "     hour1", 1, 300);
    fault(blanks + "   hour 61", 2, 298);
    fault(blanks + " falls 1<=", 1, 300);
    fault(blanks + "falls 1=1<", 1, 299);
    fault(blanks + "         ;", 1, 299);
  }

  private static void faultsOfNumbers() {
    fault("takes 10000;", 2, 6);
    fault("takes 99999999999999999999;", 2, 6);
    fault("takes 4294967296;", 2, 6);
    fault("falls 1<10000", 2, 8);
    fault("step 0 sill", 2, 5);
    fault("step 100 sill", 2, 5);
    fault("step 1 sill 100 water", 2, 12);
    fault("step 1 sill 1 water 1000 fish", 2, 20);
    fault("step 1 sill 1 water 1 fish 1000;", 2, 27);
    fault("ship 0 on", 2, 5);
    fault("ship 100 on", 2, 5);
    fault("ship 1 on 9 to", 2, 10);
    fault("ship 1 on 1 to 9", 2, 15);
    fault("hour 0;", 2, 5);
    fault("hour 61;", 2, 5);
    fault("hour 10001;", 2, 5);
    fault("flood 9 by", 2, 6);
    fault("flood 1 by 0;", 2, 11);
    fault("flood 1 by 1000;", 2, 11);
    fault("raise 9 to", 2, 6);
    fault("raise 8 to 100;", 2, 11);
    fault("mend 9;", 2, 5);
    fault("bind 7 to 0;", 2, 5);
    fault("bind 6 to 9;", 2, 10);
  }

  private static void faultsOfNesting() {
    fault("takes (((((((((1", 3, 14);
    fault("takes ---------1;", 3, 14);
    fault("takes -(-(-(-(-1", 3, 14);
    fault("falls not not not not not not not not not 1<2;", 3, 38);
    fault("falls not not not not not not not not 1<-2;", 3, 40);
    fault("falls not(not 1<2);", 1, 10);
    fault("falls not not not not(((((1)))))<2;", 3, 25);
    fault("takes ((((((((1*-1))))))));", 3, 16);
    fault("takes ((((((((1))))))))+((((((((+", 1, 32);
  }

  private static void faultsOfNamesAndClauses() {
    fault("takes 1;takes 2;", 4, 8);
    fault("hauls 1;takes 1;hauls", 4, 16);
    fault("wears 1; wears", 4, 9);
    fault("flows 1; flows", 4, 9);
    fault("falls 1<1; falls", 4, 11);
    fault("takes other;", 5, 6);
    fault("wears 1+other;", 5, 8);
    fault("flows other;", 5, 6);
    fault("flows weight;", 5, 6);
    fault("falls 1<other;", 5, 8);
    fault("takes above hour;", 5, 12);
    fault("takes below step;", 5, 12);
    fault("takes above weight;", 5, 12);
    fault("hauls below other;", 5, 12);
    fault("takes above other;", 5, 12);
    String mends = "mend 1;mend 1;mend 1;mend 1;";
    String most = mends + mends + mends + mends + mends + mends;
    fault(most + "mend 1;", 6, 168);
    fault(most + "takes 1;", 6, 168);
    fault(most + "mend 9;", 6, 168);
    fault(most + " sill", 1, 169);
    fault("takes 1;" + most.substring(7) + "takes 1;", 4, 169);
    SeaWithStairs x = new SeaWithStairs();
    CHECK.due("24 clauses", Check.text(x, most), 0);
  }

  private static void stands(String text) {
    SeaWithStairs x = new SeaWithStairs();
    CHECK.due("text " + text, Check.text(x, text), 0);
    CHECK.due("fault of " + text, x.fault(0), 0);
  }

  private static void textsThatStand() {
    stands("step 1 sill 0 water 0 fish 0;step 99 sill 99 water 999 fish 999;");
    stands("ship 1 on 0 to 8;ship 99 on 8 to 0;hour 1;hour 60;flood 0 by 1;flood 8 by 999;");
    stands("raise 8 to 99;raise 0 to 0;mend 0;mend 8;bind 6 to 8;bind 0 to 0;");
    stands("takes hour+step+high+sill+water+fish+worn+weight;");
    stands("hauls hour+step+high+sill+water+fish+worn+weight+other;");
    stands("wears hour+step+high+sill+water+fish+worn+weight;");
    stands("flows hour+step+high+sill+water+fish+worn;");
    stands("falls hour+step+high+sill+water+fish+worn<weight;");
    stands("takes above high+above sill+above water+above fish+above worn;");
    stands("flows below high+below sill+below water+below fish+below worn;");
    stands("takes 9999;hauls 00000000000000000009999;");
    stands("takes ((((((((1))))))))+((((((((1))))))));wears --------1;");
    stands("falls not not not not not not not not 1<2 and not not not not not not not not 1<2;");
    stands("falls 1<1 or 1<=1 or 1>1 or 1>=1 or 1=1 or 1#1;");
    stands("falls1<1;takes1;hour1;\nhour\n1\n;");
    stands("flows 1-2-3*4/5*(6+7);");
  }

  private static void promise8By() {
    SeaWithStairs x = new SeaWithStairs();
    x.step(1, 7, 1, 1);
    CHECK.due("no text", x.by(0), false);
    CHECK.due("none", x.by(-1), true);
    Check.text(x, "takes 5;");
    Check.text(x, "takes 6;");
    CHECK.due("told, but does not rule", x.about(3), -1);
    CHECK.due("sill", x.states(0, -1), 7);
    CHECK.due("0", x.by(0), true);
    CHECK.due("by 0", x.states(0, -1), 5);
    CHECK.due("1", x.by(1), true);
    CHECK.due("by 1", x.states(0, -1), 6);
    CHECK.due("2", x.by(2), false);
    CHECK.due("-2", x.by(-2), false);
    CHECK.due("1 still", x.about(3), 1);
    CHECK.due("none again", x.by(-1), true);
    CHECK.due("by none", x.states(0, -1), 7);
    CHECK.due("none rules", x.about(3), -1);
    CHECK.due("no act", x.about(4), 0);
  }

  private static void promise14Played() {
    SeaWithStairs x = new SeaWithStairs();
    CHECK.due("no text", x.played(0), -2);
    CHECK.due("-1", x.played(-1), -2);
    Check.text(x, "takes 5;step 9 sill 3 water 40 fish 8;step 7 sill 2 water 60 fish 0;ship 20 on 0 to 1;hour 1;");
    CHECK.due("all is done", x.played(0), -1);
    CHECK.due("steps", x.about(0), 2);
    CHECK.due("ships", x.about(1), 1);
    CHECK.due("its laws do not rule", x.ofShip(0, 3), 3);
    CHECK.due("fish", x.ofStep(0, 3), 6);
    CHECK.due("fish that came", x.ofStep(1, 3), 2);
    CHECK.due("acts", x.about(4), 1);
    Check.text(x, "flood 1 by 9;wears 3;raise 0 to 3;flood 1 by 9;");
    CHECK.due("it is so", x.played(1), 2);
    CHECK.due("what was done stays, and no more is", x.ofStep(1, 2), 60 - 40 + 10 + 9);
    Check.text(x, "bind 0 to 0;raise 1 to 9;mend 0;mend 1;");
    CHECK.due("none below", x.played(2), 3);
    CHECK.due("bound", x.ofShip(0, 2), 0);
    CHECK.due("raised", x.ofStep(1, 1), 9);
    CHECK.due("mended", x.ofStep(0, 4), 0);
    CHECK.due("bound already", x.played(2), 0);
    Check.text(x, "ship 9 on 1 to 2;");
    CHECK.due("no such step", x.played(3), 0);
    CHECK.due("4", x.played(4), -2);

    SeaWithStairs y = new SeaWithStairs();
    Check.text(y, "flood 0 by 1;");
    CHECK.due("no step", y.played(0), 0);
    Check.text(y, "step 1 sill 1 water 1 fish 1;ship 1 on 0 to 0;");
    for (int i = 0; i < 7; i++) {
      CHECK.due("as often", y.played(1), -1);
    }
    CHECK.due("the eighth ship", y.played(1), 1);
    CHECK.due("the ninth step", y.played(1), 1);
    CHECK.due("the tenth step", y.played(1), 0);
    CHECK.due("no laws, no clauses", Check.text(y, "takes 1;"), 2);
    CHECK.due("laws alone", y.played(2), -1);
  }

  private static void promise14PlayedHours() {
    SeaWithStairs x = new SeaWithStairs();
    StringBuilder hours = new StringBuilder();
    for (int i = 0; i < 24; i++) {
      hours.append("hour 60;");
    }
    Check.text(x, hours.toString());
    for (int i = 0; i < 6; i++) {
      CHECK.due("1440 hours", x.played(0), -1);
    }
    CHECK.due("hour", x.is(0), 8640);
    CHECK.due("acts", x.about(4), 30);
    CHECK.due("those that can pass do", x.played(0), 22);
    CHECK.due("hour", x.is(0), 9999);
    CHECK.due("none can", x.played(0), 0);
    CHECK.due("hour", x.is(0), 9999);
  }

  /** What was read of a text up to its fault is no part of the next one. */
  private static void faultsLeaveNothing() {
    SeaWithStairs x = new SeaWithStairs();
    x.step(1, 1, 1, 1);
    for (int i = 0; i < 20; i++) {
      Check.text(x, "hour 1;hour 1;wears 1;hauls 2;takes 1+1+1+1+1+1+1+1+1+1+1+1+1+1+1+1+1+1+1+1+1;flows 5;falls 1=1;no");
      CHECK.due("fault", x.fault(0), 1);
    }
    CHECK.due("a text", Check.text(x, "hour 1;takes 2+7;"), 0);
    x.by(0);
    CHECK.due("its law", x.states(0, -1), 9);
    CHECK.due("no other law", x.thing(1, 0), 0);
    CHECK.due("played", x.played(0), -1);
    CHECK.due("its hour alone", x.is(0), 1);
  }
}
