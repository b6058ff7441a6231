/** Seas that tests begin with. */
final class Seas {
  private Seas() {
  }

  /** Of each a few, ruled by a text, with an image and an act of each kind, a fault and twelve bytes of tape. */
  static SeaWithStairs some() {
    SeaWithStairs x = new SeaWithStairs();
    x.step(40, 2, 50, 10);
    x.step(30, 1, 20, 6);
    x.step(20, 3, 25, 4);
    x.ship(10, 0, 2);
    x.ship(6, 2, 0);
    x.ship(4, 1, 1);
    Check.text(x, "takes sill+weight+hour;hauls weight*2;flows water-sill*9;falls water>20;");
    Check.text(x, "hour 2;flood 0 by 5;");
    x.by(0);
    x.hour(2);
    x.flood(1, 9);
    x.sound(0, 20);
    x.sound(1, 17);
    x.wreck(5);
    x.wreck(3);
    x.wreck(7);
    x.misheard(0, 1);
    x.misheard(1, 2);
    x.image();
    x.bind(2, 2);
    x.raise(0, 4);
    x.hour(1);
    x.mend(0);
    x.bind(0, 1);
    x.centuries(5, 3);
    x.wreck(9);
    Check.text(x, "hour 0;");
    Check.tape(x, "wears hour;;");
    return x;
  }

  /** All is full: 9 steps, 7 ships, 4 texts, 300 bytes, 30 acts, 40 passages, hour 9999, and all that can be told. */
  static SeaWithStairs full() {
    SeaWithStairs x = new SeaWithStairs();
    Check.text(x, "step 9 sill 1 water 9 fish 9;".repeat(9));
    Check.text(x, "ship 9 on 0 to 8;".repeat(7));
    Check.text(x, "hour 60;".repeat(24));
    Check.text(x, "wears 0;falls step<3;");
    x.by(3);
    x.played(0);
    x.played(1);
    for (int i = 0; i < 6; i++) {
      x.played(2);
    }
    x.image();
    x.played(2);
    for (int i = 0; i < 8; i++) {
      x.sound(i, 9);
    }
    for (int i = 0; i < 10; i++) {
      x.wreck(i * i % 10);
    }
    for (int i = 0; i < 15; i++) {
      x.misheard(i % 10, (i + 1 + i / 10) % 10);
    }
    for (int i = 0; i < 15; i++) {
      x.feed(0x6d656e64, 0x20303b68, 0x6f757220, 0x30313b0a, 0x20202020);
    }
    return x;
  }
}
