/** A sea of three steps: told, ruled by a text, asked, moved on and taken back. */
public final class Example {
  private Example() {
  }

  public static void main(String[] args) {
    SeaWithStairs sea = new SeaWithStairs();
    sea.step(40, 2, 50, 10);
    sea.step(30, 1, 20, 0);
    sea.step(20, 0, 5, 4);
    int down = sea.ship(10, 0, 2);
    int up = sea.ship(6, 2, 0);

    int law = tell(sea, "takes sill * 5 + weight / 2; wears 3;");
    if (law == SeaWithStairs.NONE) {
      System.out.println("fault " + sea.fault(0) + " at byte " + sea.fault(1));
      return;
    }
    sea.by(law);

    System.out.println("ship " + down + " comes in " + sea.comes(down) + " hours, ship " + up + " in " + sea.comes(up));
    System.out.println(sea.hour(2) + " passages in two hours");
    System.out.println("the one down paid " + sea.ofShip(down, 3) + ", the one up " + sea.ofShip(up, 3));
    System.out.println("the ropes are worn by " + sea.ofStep(0, 4) + " and " + sea.ofStep(1, 4));
    sea.undo();
    System.out.println("an hour taken back: it is " + sea.is(0) + ", ship " + down + " is on step " + sea.ofShip(down, 1));
  }

  /** Tells a text: its number; NONE if it has a fault, is too long for the tape, or if there are four already. */
  static int tell(SeaWithStairs sea, String text) {
    sea.end(0);
    for (int at = 0; at < text.length(); at += 20) {
      sea.feed(four(text, at), four(text, at + 4), four(text, at + 8), four(text, at + 12), four(text, at + 16));
    }
    return sea.end(text.length()) == SeaWithStairs.NONE ? SeaWithStairs.NONE : sea.text();
  }

  /** Four bytes of the text, the first of them the highest; 0 behind its end. */
  private static int four(String text, int from) {
    int four = 0;
    for (int at = from; at < from + 4; at++) {
      four = four << 8 | (at < text.length() ? text.charAt(at) : 0);
    }
    return four;
  }
}
