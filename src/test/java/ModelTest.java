import java.util.Random;

/** Compares long drawn runs with the model: each run is 512 calls on a new object, and no more. */
public final class ModelTest {
  private static final int RUNS = 5000;
  private static final int CALLS = 512;
  /** In percent: how often a text is told. */
  private static final int TEXTS = 5;
  /** No look and no text takes more calls than this. */
  private static final int MOST_AT_ONCE = 24;
  private static final String[] NAMES =
      {"hour", "step", "high", "sill", "water", "fish", "worn", "weight", "other", "takes", "wibble"};
  private static final String[] RELATIONS = {"<", "<=", ">", ">=", "=", "#"};

  private final Random random;
  private final Check check = new Check();
  private SeaWithStairs x;
  private Model m;
  private String trail;
  /** How many calls may follow. */
  private int left;
  /** In percent: how often what is drawn is meant to be wrong. */
  private int slips;

  private ModelTest(long seed) {
    random = new Random(seed);
  }

  public static void main(String[] args) {
    int runs = args.length > 0 ? Integer.parseInt(args[0]) : RUNS;
    for (int seed = 0; seed < runs; seed++) {
      ModelTest test = new ModelTest(seed);
      test.run(seed);
      if (!test.check.allAsDue()) {
        System.out.println("run " + seed);
        System.exit(1);
      }
    }
    System.out.println(runs + " drawn runs are as in the model");
  }

  private void run(int seed) {
    x = new SeaWithStairs();
    m = new Model();
    slips = new int[] {0, 3, 10}[random.nextInt(3)];
    int acting = new int[] {20, 50, 80}[random.nextInt(3)];
    left = CALLS;
    while (left >= MOST_AT_ONCE && check.allAsDue()) {
      trail = "run " + seed + ", " + left + " calls ahead of its end: ";
      int kind = random.nextInt(100);
      if (kind < TEXTS) {
        tellText();
      } else if (kind < acting) {
        act();
      } else {
        look();
      }
    }
  }

  private boolean slip() {
    return random.nextInt(100) < slips;
  }

  private int between(int least, int most) {
    if (slip()) {
      int[] odd = {least - 1, most + 1, -1, -2, -3, Integer.MIN_VALUE, Integer.MAX_VALUE, 31, 32, 0};
      return odd[random.nextInt(odd.length)];
    }
    return least + random.nextInt(Math.max(1, most - least + 1));
  }

  private int aStep() {
    return between(0, Math.max(0, m.about(0) - 1));
  }

  private int aShip() {
    return between(0, Math.max(0, m.about(1) - 1));
  }

  private int ships() {
    return (1 << m.about(1)) - 1;
  }

  /** Each call is asked for its answer once. */
  private void due(String call, long got, long want) {
    left--;
    check.due(trail + call, got, want);
  }

  private void due(String call, boolean got, boolean want) {
    due(call, got ? 1 : 0, want ? 1 : 0);
  }

  // ---- Calls that change something.

  private void act() {
    switch (random.nextInt(26)) {
      case 0, 1 -> tellStep();
      case 2, 3 -> tellShip();
      case 4, 5, 6, 7 -> passHours();
      case 8, 9 -> {
        int step = aStep();
        int n = between(1, random.nextBoolean() ? 999 : 60);
        due("flood", x.flood(step, n), m.flood(step, n));
      }
      case 10, 11 -> {
        int step = aStep();
        int sill = between(0, random.nextBoolean() ? 99 : 5);
        due("raise", x.raise(step, sill), m.raise(step, sill));
      }
      case 12 -> {
        int step = aStep();
        due("mend", x.mend(step), m.mend(step));
      }
      case 13, 14, 15 -> {
        int ship = aShip();
        int goal = aStep();
        due("bind", x.bind(ship, goal), m.bind(ship, goal));
      }
      case 16 -> {
        int text = between(0, Math.max(0, m.about(2) - 1));
        due("played", x.played(text), m.played(text));
      }
      case 17 -> {
        int seed = between(0, 9999);
        int n = between(1, 40);
        due("centuries", x.centuries(seed, n), m.centuries(seed, n));
      }
      case 18, 19 -> due("undo", x.undo(), m.undo());
      case 20 -> {
        int text = between(-1, Math.max(0, m.about(2) - 1));
        due("by", x.by(text), m.by(text));
      }
      case 21 -> tellSound();
      case 22 -> tellWreck();
      case 23 -> tellMisheard();
      case 24 -> {
        if (random.nextInt(4) == 0) {
          due("image", x.image(), m.image());
        }
      }
      default -> {
        if (random.nextInt(6) == 0) {
          due("back", x.back(), m.back());
        }
      }
    }
  }

  private void tellStep() {
    int high = between(1, 99);
    int sill = between(0, random.nextInt(3) == 0 ? 99 : 4);
    int water = between(0, random.nextInt(3) == 0 ? 999 : 90);
    int fish = between(0, random.nextInt(3) == 0 ? 999 : 30);
    due("step", x.step(high, sill, water, fish), m.step(high, sill, water, fish));
  }

  private void tellShip() {
    int weight = between(1, random.nextBoolean() ? 99 : 12);
    int on = aStep();
    int goal = aStep();
    due("ship", x.ship(weight, on, goal), m.ship(weight, on, goal));
  }

  private void passHours() {
    int n = between(1, random.nextInt(4) == 0 ? 60 : 4);
    due("hour", x.hour(n), m.hour(n));
  }

  private void tellSound() {
    int step = random.nextInt(12) == 0 ? -1 : between(0, 8);
    int s = between(0, random.nextInt(5) == 0 ? 99 : 33);
    due("sound", x.sound(step, s), m.sound(step, s));
  }

  private void tellWreck() {
    int reign = random.nextInt(15) == 0 ? -1 : between(0, random.nextBoolean() ? 99 : 7);
    due("wreck", x.wreck(reign), m.wreck(reign));
  }

  private void tellMisheard() {
    int one = random.nextInt(20) == 0 ? -1 : between(0, 9);
    int other = between(0, 9);
    due("misheard", x.misheard(one, other), m.misheard(one, other));
  }

  // ---- Calls that ask.

  private void look() {
    switch (random.nextInt(17)) {
      case 0 -> {
        for (int i = 0; i < 4; i++) {
          int step = aStep();
          int what = between(0, 6);
          due("ofStep", x.ofStep(step, what), m.ofStep(step, what));
        }
      }
      case 1 -> {
        for (int i = 0; i < 4; i++) {
          int ship = aShip();
          int what = between(0, 3);
          due("ofShip", x.ofShip(ship, what), m.ofShip(ship, what));
        }
      }
      case 2 -> {
        for (int i = 0; i < 3; i++) {
          int what = between(0, 3);
          due("is " + what, x.is(what), m.is(what));
          int about = between(0, 8);
          due("about " + about, x.about(about), m.about(about));
        }
      }
      case 3 -> lookAtBook();
      case 4, 5 -> lookAhead();
      case 6 -> lookAtVoyage();
      case 7 -> lookAtHauling();
      case 8 -> lookAtThing();
      case 9 -> {
        int k = between(0, random.nextBoolean() ? 999 : 9);
        due("states", x.states(k, -1), m.states(k, -1));
        int step = aStep();
        due("states", x.states(k, step), m.states(k, step));
      }
      case 10 -> {
        int step = between(0, 8);
        due("high", x.high(step, false), m.high(step, false));
        due("high", x.high(step, true), m.high(step, true));
      }
      case 11 -> lookAtOrder();
      case 12 -> {
        for (int i = 0; i < 3; i++) {
          int n = between(1, 10);
          due("apart " + n, x.apart(n), m.apart(n));
          due("chains " + n, x.chains(n), m.chains(n));
        }
      }
      case 13 -> {
        int step = aStep();
        boolean down = random.nextBoolean();
        due("waiting", x.waiting(step, down), m.waiting(step, down));
      }
      case 14 -> {
        due("run", x.run(false), m.run(false));
        due("run last", x.run(true), m.run(true));
      }
      case 15 -> {
        int what = between(0, 1);
        due("fault", x.fault(what), m.fault(what));
      }
      default -> {
        int step = aStep();
        due("toRaise", x.toRaise(step), m.toRaise(step));
      }
    }
  }

  private void lookAtBook() {
    int booked = m.book(-1, 0);
    due("book", x.book(-1, 0), booked);
    for (int i : new int[] {0, booked - 1, booked, between(0, 39), between(0, Math.max(0, booked - 1))}) {
      int what = between(0, 2);
      due("book " + i, x.book(i, what), m.book(i, what));
    }
  }

  private void lookAtOrder() {
    int most = m.inOrder(-1);
    for (int i = -1; i <= most; i++) {
      due("inOrder " + i, x.inOrder(i), m.inOrder(i));
    }
    due("outOfOrder", x.outOfOrder(), m.outOfOrder());
  }

  private void lookAhead() {
    int n = between(1, 60);
    int ship = aShip();
    int step = aStep();
    int what = between(0, 1);
    due("foretoldShip", x.foretoldShip(n, ship, what), m.foretoldShip(n, ship, what));
    due("foretoldStep", x.foretoldStep(n, step, what), m.foretoldStep(n, step, what));
    due("comes", x.comes(ship), m.comes(ship));
  }

  private void lookAtVoyage() {
    int weight = between(1, 99);
    int from = between(0, Math.max(0, m.about(0) - 2));
    int to = between(from + 1, Math.max(from + 1, m.about(0) - 1));
    int n = between(1, random.nextBoolean() ? 48 : 9);
    int risers = Math.min(8, Math.max(0, to - from));
    for (int i = -2; i <= risers; i++) {
      due("voyage " + i, x.voyage(weight, from, to, n, i), m.voyage(weight, from, to, n, i));
    }
  }

  private void lookAtHauling() {
    int step = aStep();
    int up = slip() ? random.nextInt() : random.nextInt(128) & random.nextInt(128) & ships();
    int down = slip() ? random.nextInt() : random.nextInt(128) & ships() & ~up;
    for (int i = 0; i < 5; i++) {
      int ship = i == 0 ? -1 : aShip();
      due("hauling " + ship, x.hauling(step, up, down, ship), m.hauling(step, up, down, ship));
    }
  }

  private void lookAtThing() {
    int weight = between(1, 99);
    int step = aStep();
    due("thing", x.thing(weight, step), m.thing(weight, step));
    due("upThere", x.upThere(weight, step), m.upThere(weight, step));
  }

  // ---- Texts.

  private void tellText() {
    String text = random.nextInt(3) == 0 ? spoiled(aText()) : aText();
    due("end", x.end(0), m.end(0));
    for (int from = 0; from < text.length(); from += 20) {
      int[] fours = new int[5];
      for (int i = 0; i < 20; i++) {
        int sign = from + i < text.length() ? text.charAt(from + i) : random.nextInt(256);
        fours[i / 4] |= sign << 24 - 8 * (i % 4);
      }
      due("feed", x.feed(fours[0], fours[1], fours[2], fours[3], fours[4]),
          m.feed(fours[0], fours[1], fours[2], fours[3], fours[4]));
    }
    int n = between(text.length(), text.length());
    due("end", x.end(n), m.end(n));
    due("text [" + text + "]", x.text(), m.text());
    due("fault [" + text + "]", x.fault(0), m.fault(0));
    due("place [" + text + "]", x.fault(1), m.fault(1));
    int ruling = m.about(2) - 1;
    if (random.nextBoolean() && ruling >= 0) {
      due("by", x.by(ruling), m.by(ruling));
    }
  }

  private String spoiled(String text) {
    StringBuilder all = new StringBuilder(text);
    int times = 1 + random.nextInt(2);
    for (int i = 0; i < times && all.length() > 1; i++) {
      int at = random.nextInt(all.length());
      switch (random.nextInt(4)) {
        case 0 -> all.deleteCharAt(at);
        case 1 -> all.setCharAt(at, (char) random.nextInt(256));
        case 2 -> all.insert(at, "()-+*/<>=#,;! 09azA\n".charAt(random.nextInt(20)));
        default -> all.setLength(at);
      }
    }
    return all.length() > 300 ? all.substring(0, 300) : all.toString();
  }

  private String aText() {
    StringBuilder all = new StringBuilder();
    int clauses = random.nextInt(12) == 0 ? 26 : random.nextInt(9);
    boolean[] told = new boolean[5];
    for (int i = 0; i < clauses; i++) {
      String clause = aClause(told, clauses > 20);
      if (all.length() + clause.length() <= 300) {
        all.append(clause);
        if (random.nextInt(6) == 0 && all.length() < 300) {
          all.append(random.nextBoolean() ? ' ' : '\n');
        }
      }
    }
    return all.toString();
  }

  private String aClause(boolean[] told, boolean isShort) {
    int kind = isShort ? 7 + random.nextInt(5) : random.nextInt(14);
    if (kind < 5 || kind > 11) {
      int law = kind % 5;
      if (told[law] && !slip()) {
        law = (law + 1) % 5;
      }
      if (told[law] && !slip()) {
        return "mend 0;";
      }
      told[law] = true;
      String word = new String[] {"takes", "hauls", "wears", "flows", "falls"}[law];
      return word + " " + (law == 4 ? either(law, 0) : sum(law, 0)) + ";";
    }
    return switch (kind) {
      case 5 -> "step " + between(1, 99) + " sill " + between(0, 9) + " water " + between(0, 200) + " fish "
          + between(0, 99) + ";";
      case 6 -> "ship " + between(1, 99) + " on " + between(0, 8) + " to " + between(0, 8) + ";";
      case 7 -> "hour " + between(1, random.nextInt(3) == 0 ? 60 : 5) + ";";
      case 8 -> "flood " + aStep() + " by " + between(1, 999) + ";";
      case 9 -> "raise " + aStep() + " to " + between(0, 99) + ";";
      case 10 -> "mend " + aStep() + ";";
      default -> "bind " + aShip() + " to " + aStep() + ";";
    };
  }

  private String either(int law, int depth) {
    String all = both(law, depth);
    while (random.nextInt(4) == 0) {
      all += " or " + both(law, depth);
    }
    return all;
  }

  private String both(int law, int depth) {
    String all = ask(law, depth);
    while (random.nextInt(4) == 0) {
      all += " and " + ask(law, depth);
    }
    return all;
  }

  private String ask(int law, int depth) {
    if (random.nextInt(5) == 0) {
      return "not " + ask(law, depth + 1);
    }
    return sum(law, depth) + RELATIONS[random.nextInt(6)] + sum(law, depth);
  }

  private String sum(int law, int depth) {
    String all = product(law, depth);
    while (random.nextInt(3) == 0) {
      all += (random.nextBoolean() ? "+" : "-") + product(law, depth);
    }
    return all;
  }

  private String product(int law, int depth) {
    String all = one(law, depth);
    while (random.nextInt(4) == 0) {
      all += (random.nextBoolean() ? "*" : "/") + one(law, depth);
    }
    return all;
  }

  private String one(int law, int depth) {
    switch (random.nextInt(8)) {
      case 0, 1:
        return String.valueOf(random.nextInt(10) == 0 ? 9990 + between(0, 9) : random.nextInt(20));
      case 2:
        return (random.nextBoolean() ? "above " : "below ") + (slip() ? aName() : NAMES[2 + random.nextInt(5)]);
      case 3:
        return random.nextInt(30) == 0 ? "((((((((" + one(law, depth) + "))))))))" : "(" + sum(law, depth + 1) + ")";
      case 4:
        return random.nextInt(30) == 0 ? "--------" + one(law, depth) : "-" + one(law, depth + 1);
      default:
        if (slip()) {
          return aName();
        }
        return NAMES[random.nextInt(law == 1 ? 9 : law == 3 ? 7 : 8)];
    }
  }

  private String aName() {
    return NAMES[random.nextInt(NAMES.length)];
  }
}
