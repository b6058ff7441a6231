/** A sea with stairs, as ../shared/DOC.md tells it; README.md says how to use it. */
public final class SeaWithStairs {
  public static final int NONE = -1;

  /** What calls answer to wrong arguments where NONE has another meaning. */
  private static final int OTHERS = -2;
  private static final int NO_VOYAGE = -100;
  private static final int NO_STATES = -1000000000;

  private static final int MOST_STEPS = 9;
  private static final int MOST_SHIPS = 7;
  private static final int MOST_TEXTS = 4;
  private static final int MOST_BYTES = 300;
  private static final int MOST_ACTS = 30;
  private static final int MOST_BOOKED = 40;
  private static final int MOST_SOUNDS = 8;
  private static final int MOST_WRECKS = 10;
  private static final int MOST_MISHEARD = 15;
  private static final int MOST_WORDS = 10;

  private static final int MOST_MEASURE = 99;
  private static final int MOST_STUFF = 999;
  private static final int MOST_WORN = 100;
  private static final int MOST_PAID = 99999;
  private static final int MOST_OUT = 99999999;
  private static final int MOST_HOUR = 9999;
  private static final int MOST_PENCE = 9999;
  private static final int MOST_HOURS_AT_ONCE = 60;
  private static final int MOST_FORETOLD = 60;
  private static final int MOST_VOYAGE = 48;
  private static final int MOST_RUN = 48;
  private static final int MOST_K = 999;
  private static final int MOST_IN_HAULING = 4;
  private static final int MOST_SEED = 9999;
  private static final int MOST_DRAWS = 40;
  private static final int FIRST_X = 83;
  private static final int STATES_WEIGHT = 10;

  private static final int MOST_CLAUSES = 24;
  private static final int NUMBERS_IN_CLAUSE = 4;
  private static final int MOST_NUMBER = 9999;
  private static final int MOST_NESTED = 8;
  private static final int MOST_VALUE = 1000000;
  private static final int LAWS = 5;
  /** Far above what eight nested parts can ask for. */
  private static final int STACK = 64;

  private static final int FAULT_PLACE = 1;
  private static final int FAULT_NUMBER = 2;
  private static final int FAULT_NESTED = 3;
  private static final int FAULT_TWICE = 4;
  private static final int FAULT_NAME = 5;
  private static final int FAULT_CLAUSES = 6;

  // Kinds of tokens: a sign of one byte is that byte; words follow from FIRST_WORD on, in the order of WORDS.
  private static final int NOT_MORE = 1;
  private static final int NOT_LESS = 2;
  private static final int NUMBER = 3;
  private static final int TEXT_END = 4;
  private static final int NO_TOKEN = 5;
  /** In the code of a law alone: the - of one ONE. */
  private static final int MINUS = 6;

  private static final String SIGNS = "<>=#+-*/(),;";
  private static final String WORDS =
      "takes hauls wears flows falls step ship hour flood raise mend bind sill water fish on to by high worn weight other above below or and not ";
  private static final int FIRST_WORD = 128;
  private static final int TAKES = FIRST_WORD;
  private static final int HAULS = FIRST_WORD + 1;
  private static final int WEARS = FIRST_WORD + 2;
  private static final int FLOWS = FIRST_WORD + 3;
  private static final int FALLS = FIRST_WORD + 4;
  private static final int STEP = FIRST_WORD + 5;
  private static final int SHIP = FIRST_WORD + 6;
  private static final int HOUR = FIRST_WORD + 7;
  private static final int FLOOD = FIRST_WORD + 8;
  private static final int RAISE = FIRST_WORD + 9;
  private static final int MEND = FIRST_WORD + 10;
  private static final int BIND = FIRST_WORD + 11;
  private static final int SILL = FIRST_WORD + 12;
  private static final int WATER = FIRST_WORD + 13;
  private static final int FISH = FIRST_WORD + 14;
  private static final int ON = FIRST_WORD + 15;
  private static final int TO = FIRST_WORD + 16;
  private static final int BY = FIRST_WORD + 17;
  private static final int HIGH = FIRST_WORD + 18;
  private static final int WORN = FIRST_WORD + 19;
  private static final int WEIGHT = FIRST_WORD + 20;
  private static final int OTHER = FIRST_WORD + 21;
  private static final int ABOVE = FIRST_WORD + 22;
  private static final int BELOW = FIRST_WORD + 23;
  private static final int OR = FIRST_WORD + 24;
  private static final int AND = FIRST_WORD + 25;
  private static final int NOT = FIRST_WORD + 26;

  // Levels of the parts of a law, from the widest.
  private static final int EITHER = 0;
  private static final int BOTH = 1;
  private static final int ASK = 2;
  private static final int SUM = 3;
  private static final int PRODUCT = 4;
  private static final int ONE = 5;

  // The forms of the clauses from STEP to BIND: the rows of each begin at FORM_FROM (and end where the next begin);
  // a row is the word ahead of a number (0: none) and the least and the greatest that the number may be.
  private static final int[] FORM_FROM = {0, 4, 7, 8, 10, 12, 13, 15};
  private static final int[] FORM_WORD = {0, SILL, WATER, FISH, 0, ON, TO, 0, 0, BY, 0, TO, 0, 0, TO};
  private static final int[] FORM_LEAST = {1, 0, 0, 0, 1, 0, 0, 1, 0, 1, 0, 0, 0, 0, 0};
  private static final int[] FORM_MOST = {99, 99, 999, 999, 99, 8, 8, 60, 8, 999, 8, 99, 8, 6, 8};

  private final Whole now = new Whole();
  private final Whole kept = new Whole();
  private final Sea sea = now.sea;
  private final Told told = now.told;
  /**
   * The image needs no copies of them: while it stands there are never fewer texts than it has,
   * so none of its own is written over.
   */
  private final Text[] texts = new Text[MOST_TEXTS];
  private final Reader reader = new Reader();
  private final Laws laws = new Laws();
  private final Hours hours = new Hours(laws);
  private final Voyages voyages = new Voyages(laws);
  private final Pairs pairs = new Pairs(laws);
  private final Unions unions = new Unions();
  /** The sea as it would be: each answer about it begins with a fresh copy. */
  private final Sea ahead = new Sea();

  public SeaWithStairs() {
    for (int i = 0; i < MOST_TEXTS; i++) {
      texts[i] = new Text();
    }
  }

  // ---- Telling steps and ships.

  public int step(int high, int sill, int water, int fish) {
    if (!isBetween(1, high, MOST_MEASURE) || !isBetween(0, sill, MOST_MEASURE)) {
      return NONE;
    }
    if (!isBetween(0, water, MOST_STUFF) || !isBetween(0, fish, MOST_STUFF) || sea.steps >= MOST_STEPS) {
      return NONE;
    }
    return sea.addStep(high, sill, water, fish);
  }

  public int ship(int weight, int on, int goal) {
    if (!isWeight(weight) || !isStep(on) || !isStep(goal) || sea.ships >= MOST_SHIPS) {
      return NONE;
    }
    return sea.addShip(weight, on, goal);
  }

  // ---- Texts.

  public int feed(int a, int b, int c, int d, int e) {
    if (reader.length + 20 > MOST_BYTES) {
      return NONE;
    }
    reader.addFour(a);
    reader.addFour(b);
    reader.addFour(c);
    reader.addFour(d);
    reader.addFour(e);
    return reader.length;
  }

  public int end(int n) {
    if (!isBetween(0, n, reader.length)) {
      return NONE;
    }
    reader.length = n;
    return n;
  }

  public int text() {
    if (now.texts >= MOST_TEXTS) {
      return NONE;
    }
    boolean stands = reader.readInto(texts[now.texts]);
    reader.length = 0;
    if (!stands) {
      return NONE;
    }
    now.texts++;
    return now.texts - 1;
  }

  public int fault(int what) {
    switch (what) {
      case 0: return reader.fault;
      case 1: return reader.faultPlace;
      default: return NONE;
    }
  }

  public boolean by(int text) {
    if (text != NONE && !isText(text)) {
      return false;
    }
    now.ruling = text;
    chooseRuler();
    return true;
  }

  // ---- What is done by hand.

  public int hour(int n) {
    if (!isBetween(1, n, MOST_HOURS_AT_ONCE) || sea.hour + n > MOST_HOUR) {
      return NONE;
    }
    return passHours(n);
  }

  public int flood(int step, int n) {
    if (!isStep(step) || !isBetween(1, n, MOST_STUFF)) {
      return NONE;
    }
    now.acts.keep(sea);
    sea.addWater(step, n);
    return sea.water[step];
  }

  public boolean raise(int step, int sill) {
    if (!isStep(step) || !isBetween(0, sill, MOST_MEASURE) || sea.sill[step] == sill) {
      return false;
    }
    now.acts.keep(sea);
    sea.sill[step] = sill;
    return true;
  }

  public int mend(int step) {
    if (!hasRiser(step)) {
      return NONE;
    }
    now.acts.keep(sea);
    int before = sea.worn[step];
    sea.worn[step] = 0;
    return before;
  }

  public boolean bind(int ship, int goal) {
    if (!isShip(ship) || !isStep(goal) || sea.goal[ship] == goal) {
      return false;
    }
    now.acts.keep(sea);
    sea.goal[ship] = goal;
    return true;
  }

  // ---- What is done by texts and by draws, and taken back.

  public int played(int text) {
    if (!isText(text)) {
      return OTHERS;
    }
    Text script = texts[text];
    for (int i = 0; i < script.clauses; i++) {
      if (!playClause(script, i)) {
        return i;
      }
    }
    return NONE;
  }

  public int centuries(int seed, int n) {
    if (!isBetween(0, seed, MOST_SEED) || !isBetween(1, n, MOST_DRAWS) || sea.steps == 0 || sea.ships == 0) {
      return NONE;
    }
    now.acts.keep(sea);
    sea.x = seed * 2 + FIRST_X;
    for (int i = 0; i < n; i++) {
      int x = sea.x;
      sea.x = (x * 293 + 191) % 30313;
      doDrawn(x);
    }
    return sea.hour;
  }

  public int undo() {
    return now.acts.takeBack(sea);
  }

  // ---- What is.

  public int ofStep(int step, int what) {
    if (!isStep(step)) {
      return NONE;
    }
    switch (what) {
      case 0: return sea.high[step];
      case 1: return sea.sill[step];
      case 2: return sea.water[step];
      case 3: return sea.fish[step];
      case 4: return sea.worn[step];
      case 5: return sea.shipsOn(step);
      case 6: return laws.flows(sea, step);
      default: return NONE;
    }
  }

  public int ofShip(int ship, int what) {
    if (!isShip(ship)) {
      return NONE;
    }
    switch (what) {
      case 0: return sea.weight[ship];
      case 1: return sea.on[ship];
      case 2: return sea.goal[ship];
      case 3: return sea.paid[ship];
      default: return NONE;
    }
  }

  public int is(int what) {
    switch (what) {
      case 0: return sea.hour;
      case 1: return sea.outWater;
      case 2: return sea.outFish;
      case 3: return sea.x;
      default: return OTHERS;
    }
  }

  public int book(int i, int what) {
    if (i == NONE) {
      return sea.booked;
    }
    if (!isBetween(0, i, sea.booked - 1)) {
      return OTHERS;
    }
    switch (what) {
      case 0: return sea.book[i] / 100;
      case 1: return sea.book[i] / 10 % 10;
      case 2: return sea.book[i] % 10;
      default: return OTHERS;
    }
  }

  // ---- What will be.

  public int foretoldShip(int n, int ship, int what) {
    if (!isBetween(1, n, MOST_FORETOLD) || !isShip(ship) || !isBetween(0, what, 1)) {
      return NONE;
    }
    lookAhead(n);
    return what == 0 ? ahead.on[ship] : ahead.paid[ship];
  }

  public int foretoldStep(int n, int step, int what) {
    if (!isBetween(1, n, MOST_FORETOLD) || !isStep(step) || !isBetween(0, what, 1)) {
      return NONE;
    }
    lookAhead(n);
    return what == 0 ? ahead.water[step] : ahead.fish[step];
  }

  public int comes(int ship) {
    if (!isShip(ship)) {
      return NONE;
    }
    lookAhead(0);
    for (int gone = 0; gone <= MOST_FORETOLD; gone++) {
      if (ahead.on[ship] == ahead.goal[ship]) {
        return gone;
      }
      hours.passOne(ahead);
    }
    return NONE;
  }

  public int voyage(int weight, int from, int to, int n, int i) {
    if (!isWeight(weight) || !isStep(from) || !isStep(to) || from >= to || !isBetween(1, n, MOST_VOYAGE)) {
      return NO_VOYAGE;
    }
    int risers = to - from;
    if (n < risers || !isBetween(-2, i, risers - 1)) {
      return NO_VOYAGE;
    }
    lookAhead(0);
    voyages.plan(ahead, weight, from, risers, n);
    if (i == -2) {
      return voyages.pence[0][0];
    }
    return i == NONE ? voyages.comes[0][0] : voyages.hoursAheadOf(i);
  }

  public int hauling(int step, int up, int down, int ship) {
    if (!hasRiser(step) || !areShips(up) || !areShips(down) || (up & down) != 0 || up == 0) {
      return OTHERS;
    }
    if (Integer.bitCount(up) > MOST_IN_HAULING || Integer.bitCount(down) > MOST_IN_HAULING) {
      return OTHERS;
    }
    if (ship != NONE && (!isShip(ship) || ((up | down) & 1 << ship) == 0)) {
      return OTHERS;
    }
    pairs.choose(sea, step, up, down);
    return ship == NONE ? pairs.least : pairs.partnerOf(ship);
  }

  public int thing(int weight, int step) {
    if (!isWeight(weight) || !isStep(step)) {
      return NONE;
    }
    return endOfFall(weight, step);
  }

  public int upThere(int weight, int step) {
    if (!isWeight(weight) || !isStep(step)) {
      return NONE;
    }
    int bits = 0;
    // What falls from below the step never comes there: it only goes down.
    for (int from = 0; from <= step; from++) {
      if (endOfFall(weight, from) >= step) {
        bits |= 1 << from;
      }
    }
    return bits;
  }

  public int toRaise(int step) {
    if (!isStep(step)) {
      return NONE;
    }
    lookAhead(0);
    for (int sill = sea.sill[step]; sill <= MOST_MEASURE; sill++) {
      ahead.sill[step] = sill;
      if (laws.flows(ahead, step) == 0) {
        return sill;
      }
    }
    return NONE;
  }

  public int states(int k, int step) {
    if (!isBetween(0, k, MOST_K) || sea.steps == 0 || (step != NONE && !isStep(step))) {
      return NO_STATES;
    }
    for (int i = 0; i < sea.steps; i++) {
      unions.tolls[i] = laws.takes(sea, i, STATES_WEIGHT);
    }
    unions.unite(sea.steps, k);
    return step == NONE ? unions.worth[0] : unions.unionOf(step);
  }

  // ---- Sounds, wrecks and words.

  public int sound(int step, int s) {
    if (step == NONE) {
      told.sounds = 0;
      return 0;
    }
    if (!isBetween(0, step, MOST_STEPS - 1) || !isBetween(0, s, MOST_MEASURE) || told.sounds >= MOST_SOUNDS) {
      return OTHERS;
    }
    told.addSound(step, s);
    return told.sounds;
  }

  public int high(int step, boolean most) {
    if (!isBetween(0, step, MOST_STEPS - 1)) {
      return NONE;
    }
    int found = NONE;
    for (int high = 1; high <= MOST_MEASURE; high++) {
      if (told.mayBeHigh(step, high)) {
        if (!most) {
          return high;
        }
        found = high;
      }
    }
    return found;
  }

  public int wreck(int reign) {
    if (reign == NONE) {
      told.wrecks = 0;
      return 0;
    }
    if (!isBetween(0, reign, MOST_MEASURE) || told.wrecks >= MOST_WRECKS) {
      return OTHERS;
    }
    told.addWreck(reign);
    return told.wrecks;
  }

  public int inOrder(int i) {
    int most = told.measureRows();
    if (i == NONE) {
      return most;
    }
    return isBetween(0, i, most - 1) ? told.reignInOrder(i, most) : OTHERS;
  }

  public int outOfOrder() {
    int twos = 0;
    for (int above = 1; above < told.wrecks; above++) {
      for (int under = 0; under < above; under++) {
        if (told.reigns[above] < told.reigns[under]) {
          twos++;
        }
      }
    }
    return twos;
  }

  public int misheard(int one, int other) {
    if (one == NONE) {
      told.misheard = 0;
      return 0;
    }
    if (!isBetween(0, one, MOST_WORDS - 1) || !isBetween(0, other, MOST_WORDS - 1) || one == other) {
      return OTHERS;
    }
    if (told.misheard >= MOST_MISHEARD) {
      return OTHERS;
    }
    told.addMisheard(one, other);
    return told.misheard;
  }

  public int apart(int n) {
    if (!isBetween(1, n, MOST_WORDS)) {
      return NONE;
    }
    int best = 0;
    for (int set = 1; set < 1 << n; set++) {
      if (Integer.bitCount(set) > Integer.bitCount(best) && told.areApart(set)) {
        best = set;
      }
    }
    return best;
  }

  public int chains(int n) {
    if (!isBetween(1, n, MOST_WORDS)) {
      return NONE;
    }
    int parts = 0;
    int seen = 0;
    for (int word = 0; word < n; word++) {
      if ((seen & 1 << word) == 0) {
        seen |= told.chainOf(word, n);
        parts++;
      }
    }
    return parts;
  }

  // ---- Ships that wait, and a run.

  public int waiting(int step, boolean down) {
    return isStep(step) ? sea.bound(step, down) : NONE;
  }

  public int run(boolean last) {
    if (sea.ships == 0) {
      return NONE;
    }
    int all = (1 << sea.ships) - 1;
    int came = 0;
    lookAhead(0);
    for (int gone = 0; gone <= MOST_RUN; gone++) {
      int home = ahead.onGoals();
      if (home == all) {
        return last ? lowest(home & ~came) : gone;
      }
      came = home;
      hours.passOne(ahead);
    }
    return NONE;
  }

  // ---- The image, and how many there are.

  public int image() {
    kept.copyFrom(now);
    return sea.hour;
  }

  public int back() {
    now.copyFrom(kept);
    chooseRuler();
    return sea.hour;
  }

  public int about(int what) {
    switch (what) {
      case 0: return sea.steps;
      case 1: return sea.ships;
      case 2: return now.texts;
      case 3: return now.ruling;
      case 4: return now.acts.count;
      case 5: return told.sounds;
      case 6: return told.wrecks;
      case 7: return told.misheard;
      case 8: return reader.length;
      default: return OTHERS;
    }
  }

  // ---- Parts of the above.

  private static boolean isBetween(int least, int value, int most) {
    return least <= value && value <= most;
  }

  private static boolean isWeight(int weight) {
    return isBetween(1, weight, MOST_MEASURE);
  }

  private boolean isStep(int step) {
    return isBetween(0, step, sea.steps - 1);
  }

  private boolean hasRiser(int step) {
    return isBetween(0, step, sea.steps - 2);
  }

  private boolean isShip(int ship) {
    return isBetween(0, ship, sea.ships - 1);
  }

  private boolean areShips(int bits) {
    return isBetween(0, bits, (1 << sea.ships) - 1);
  }

  private boolean isText(int text) {
    return isBetween(0, text, now.texts - 1);
  }

  /** The lowest one of a set of ships, NONE of an empty one. */
  private static int lowest(int bits) {
    for (int i = 0; i < MOST_SHIPS; i++) {
      if ((bits & 1 << i) != 0) {
        return i;
      }
    }
    return NONE;
  }

  private void chooseRuler() {
    laws.ruler = isText(now.ruling) ? texts[now.ruling] : laws.none;
  }

  private int passHours(int n) {
    int passages = 0;
    for (int i = 0; i < n; i++) {
      now.acts.keep(sea);
      passages += hours.passOne(sea);
    }
    return passages;
  }

  private boolean playClause(Text script, int clause) {
    int a = script.numberOf(clause, 0);
    int b = script.numberOf(clause, 1);
    int c = script.numberOf(clause, 2);
    int d = script.numberOf(clause, 3);
    switch (script.kinds[clause]) {
      case STEP: return step(a, b, c, d) != NONE;
      case SHIP: return ship(a, b, c) != NONE;
      case HOUR: {
        int can = Math.min(a, MOST_HOUR - sea.hour);
        passHours(can);
        return can == a;
      }
      case FLOOD: return flood(a, b) != NONE;
      case RAISE: return raise(a, b);
      case MEND: return mend(a) != NONE;
      case BIND: return bind(a, b);
      default: return true;
    }
  }

  private void doDrawn(int x) {
    if (sea.steps == 0 || sea.ships == 0) {
      return;
    }
    int step = x % sea.steps;
    switch (x % 6) {
      case 0:
        sea.addWater(step, 1 + x % 200);
        break;
      case 1:
        sea.sill[step] = x % 30;
        break;
      case 2:
        sea.worn[step] = 0;
        break;
      case 3:
        sea.goal[x % sea.ships] = step;
        break;
      default:
        if (sea.hour < MOST_HOUR) {
          hours.passOne(sea);
        }
        break;
    }
  }

  private void lookAhead(int n) {
    ahead.copyFrom(sea);
    for (int i = 0; i < n; i++) {
      hours.passOne(ahead);
    }
  }

  private int endOfFall(int weight, int step) {
    int at = step;
    while (at < sea.steps && laws.falls(sea, at, weight)) {
      at++;
    }
    return at;
  }

  /** Steps, ropes and ships, the hour, what went out, X and the book: all that acts change. */
  private static final class Sea {
    private int steps;
    private final int[] high = new int[MOST_STEPS];
    private final int[] sill = new int[MOST_STEPS];
    private final int[] water = new int[MOST_STEPS];
    private final int[] fish = new int[MOST_STEPS];
    private final int[] worn = new int[MOST_STEPS];
    private int ships;
    private final int[] weight = new int[MOST_SHIPS];
    private final int[] on = new int[MOST_SHIPS];
    private final int[] goal = new int[MOST_SHIPS];
    private final int[] paid = new int[MOST_SHIPS];
    private int hour;
    private int outWater;
    private int outFish;
    private int x = FIRST_X;
    private int booked;
    /** From the eldest on; a passage is one number (hour, ship, step), as the acts keep many copies. */
    private final int[] book = new int[MOST_BOOKED];

    private int addStep(int itsHigh, int itsSill, int itsWater, int itsFish) {
      if (steps >= MOST_STEPS) {
        return NONE;
      }
      high[steps] = itsHigh;
      sill[steps] = itsSill;
      water[steps] = itsWater;
      fish[steps] = itsFish;
      worn[steps] = 0;
      steps++;
      return steps - 1;
    }

    private int addShip(int itsWeight, int itsPlace, int itsGoal) {
      if (ships >= MOST_SHIPS) {
        return NONE;
      }
      weight[ships] = itsWeight;
      on[ships] = itsPlace;
      goal[ships] = itsGoal;
      paid[ships] = 0;
      ships++;
      return ships - 1;
    }

    private void copyFrom(Sea other) {
      steps = other.steps;
      ships = other.ships;
      System.arraycopy(other.high, 0, high, 0, MOST_STEPS);
      System.arraycopy(other.weight, 0, weight, 0, MOST_SHIPS);
      goBackTo(other);
    }

    /** Steps and ships that the earlier sea hasn't yet stay as they are. */
    private void goBackTo(Sea earlier) {
      System.arraycopy(earlier.sill, 0, sill, 0, earlier.steps);
      System.arraycopy(earlier.water, 0, water, 0, earlier.steps);
      System.arraycopy(earlier.fish, 0, fish, 0, earlier.steps);
      System.arraycopy(earlier.worn, 0, worn, 0, earlier.steps);
      System.arraycopy(earlier.on, 0, on, 0, earlier.ships);
      System.arraycopy(earlier.goal, 0, goal, 0, earlier.ships);
      System.arraycopy(earlier.paid, 0, paid, 0, earlier.ships);
      hour = earlier.hour;
      outWater = earlier.outWater;
      outFish = earlier.outFish;
      x = earlier.x;
      booked = earlier.booked;
      System.arraycopy(earlier.book, 0, book, 0, earlier.booked);
    }

    private void addWater(int step, int n) {
      water[step] = Math.min(MOST_STUFF, water[step] + n);
    }

    private void pay(int ship, int pence) {
      paid[ship] = Math.min(MOST_PAID, paid[ship] + pence);
    }

    private void moveTo(int ship, int step) {
      on[ship] = step;
      if (booked == MOST_BOOKED) {
        System.arraycopy(book, 1, book, 0, MOST_BOOKED - 1);
        booked--;
      }
      book[booked] = hour * 100 + ship * 10 + step;
      booked++;
    }

    private int shipsOn(int step) {
      int bits = 0;
      for (int i = 0; i < ships; i++) {
        if (on[i] == step) {
          bits |= 1 << i;
        }
      }
      return bits;
    }

    private int bound(int step, boolean down) {
      int bits = 0;
      for (int i = 0; i < ships; i++) {
        if (on[i] == step && (down ? goal[i] > step : goal[i] < step)) {
          bits |= 1 << i;
        }
      }
      return bits;
    }

    private int onGoals() {
      int bits = 0;
      for (int i = 0; i < ships; i++) {
        if (on[i] == goal[i]) {
          bits |= 1 << i;
        }
      }
      return bits;
    }
  }

  /** The sea as it was ahead of each of the latest acts. */
  private static final class Acts {
    private final Sea[] seas = new Sea[MOST_ACTS];
    /** Where the next one is written: the eldest is written over when there are as many as can be. */
    private int next;
    private int count;

    private Acts() {
      for (int i = 0; i < MOST_ACTS; i++) {
        seas[i] = new Sea();
      }
    }

    private void keep(Sea sea) {
      seas[next].copyFrom(sea);
      next = (next + 1) % MOST_ACTS;
      count = Math.min(MOST_ACTS, count + 1);
    }

    private int takeBack(Sea sea) {
      if (count == 0) {
        return NONE;
      }
      next = (next + MOST_ACTS - 1) % MOST_ACTS;
      count--;
      sea.goBackTo(seas[next]);
      return count;
    }

    private void copyFrom(Acts other) {
      for (int i = 0; i < MOST_ACTS; i++) {
        seas[i].copyFrom(other.seas[i]);
      }
      next = other.next;
      count = other.count;
    }
  }

  /** Sounds, wrecks and misheard words, as told. */
  private static final class Told {
    private int sounds;
    private final int[] soundStep = new int[MOST_SOUNDS];
    private final int[] soundBeats = new int[MOST_SOUNDS];
    private int wrecks;
    private final int[] reigns = new int[MOST_WRECKS];
    /** Of each wreck how many lie in order from it up, itself too: made anew by measureRows. */
    private final int[] rows = new int[MOST_WRECKS];
    private int misheard;
    /** The two words of each (bits). */
    private final int[] twos = new int[MOST_MISHEARD];

    private void copyFrom(Told other) {
      sounds = other.sounds;
      System.arraycopy(other.soundStep, 0, soundStep, 0, MOST_SOUNDS);
      System.arraycopy(other.soundBeats, 0, soundBeats, 0, MOST_SOUNDS);
      wrecks = other.wrecks;
      System.arraycopy(other.reigns, 0, reigns, 0, MOST_WRECKS);
      misheard = other.misheard;
      System.arraycopy(other.twos, 0, twos, 0, MOST_MISHEARD);
    }

    private void addSound(int step, int beats) {
      if (sounds < MOST_SOUNDS) {
        soundStep[sounds] = step;
        soundBeats[sounds] = beats;
        sounds++;
      }
    }

    private void addWreck(int reign) {
      if (wrecks < MOST_WRECKS) {
        reigns[wrecks] = reign;
        wrecks++;
      }
    }

    private void addMisheard(int one, int other) {
      if (misheard < MOST_MISHEARD) {
        twos[misheard] = 1 << one | 1 << other;
        misheard++;
      }
    }

    private boolean mayBeHigh(int step, int high) {
      for (int i = 0; i < sounds; i++) {
        int beats = soundBeats[i];
        boolean fits = beats * beats <= 10 * high && 10 * high < (beats + 1) * (beats + 1);
        if (soundStep[i] == step && !fits) {
          return false;
        }
      }
      return true;
    }

    /** The most wrecks that lie in order. */
    private int measureRows() {
      int most = 0;
      for (int i = wrecks - 1; i >= 0; i--) {
        rows[i] = 1;
        for (int above = i + 1; above < wrecks; above++) {
          if (reigns[above] > reigns[i]) {
            rows[i] = Math.max(rows[i], rows[above] + 1);
          }
        }
        most = Math.max(most, rows[i]);
      }
      return most;
    }

    /** Takes the lowest reign that can still be followed by enough, as often as asked; of like reigns the first. */
    private int reignInOrder(int i, int most) {
      int reign = NONE;
      int from = 0;
      for (int left = most; left >= most - i; left--) {
        int best = NONE;
        for (int at = from; at < wrecks; at++) {
          if (reigns[at] > reign && rows[at] >= left && (best == NONE || reigns[at] < reigns[best])) {
            best = at;
          }
        }
        if (best == NONE) {
          return OTHERS;
        }
        reign = reigns[best];
        from = best + 1;
      }
      return reign;
    }

    private boolean areApart(int set) {
      for (int i = 0; i < misheard; i++) {
        if ((twos[i] & set) == twos[i]) {
          return false;
        }
      }
      return true;
    }

    /** What goes together with a word among the first n (bits); each round adds what one more two reaches. */
    private int chainOf(int word, int n) {
      int among = (1 << n) - 1;
      int chain = 1 << word;
      for (int round = 0; round < MOST_WORDS; round++) {
        for (int i = 0; i < misheard; i++) {
          if ((twos[i] & ~among) == 0 && (twos[i] & chain) != 0) {
            chain |= twos[i];
          }
        }
      }
      return chain;
    }
  }

  /** All that an image holds. */
  private static final class Whole {
    private final Sea sea = new Sea();
    private final Acts acts = new Acts();
    private final Told told = new Told();
    private int texts;
    private int ruling = NONE;

    private void copyFrom(Whole other) {
      sea.copyFrom(other.sea);
      acts.copyFrom(other.acts);
      told.copyFrom(other.told);
      texts = other.texts;
      ruling = other.ruling;
    }
  }

  /** A text as read: its clauses, and the code of its laws, operands ahead of what joins them. */
  private static final class Text {
    private int clauses;
    private final int[] kinds = new int[MOST_CLAUSES];
    private final int[] numbers = new int[MOST_CLAUSES * NUMBERS_IN_CLAUSE];
    private int codes;
    private final int[] ops = new int[MOST_BYTES];
    private final int[] args = new int[MOST_BYTES];
    /** Where the code of each law begins and ends: the same place if there is none. */
    private final int[] from = new int[LAWS];
    private final int[] to = new int[LAWS];

    private void empty() {
      clauses = 0;
      codes = 0;
      for (int i = 0; i < LAWS; i++) {
        from[i] = 0;
        to[i] = 0;
      }
    }

    private boolean hasLaw(int law) {
      return law >= 0 && law < LAWS && from[law] < to[law];
    }

    private int numberOf(int clause, int i) {
      return numbers[clause * NUMBERS_IN_CLAUSE + i];
    }

    private void addCode(int op, int arg) {
      if (codes < MOST_BYTES) {
        ops[codes] = op;
        args[codes] = arg;
        codes++;
      }
    }
  }

  /** The tape, and how a text is read from it. */
  private static final class Reader {
    private final int[] tape = new int[MOST_BYTES];
    private int length;
    private int fault = NONE;
    private int faultPlace = NONE;
    private Text text;
    /** Where the next token is looked for. */
    private int at;
    // The token that is come to.
    private int kind;
    private int place;
    private int number;
    /** The law that is read. */
    private int law;

    private void addFour(int four) {
      if (length + 4 > MOST_BYTES) {
        return;
      }
      for (int i = 0; i < 4; i++) {
        tape[length + i] = four >>> 24 - 8 * i & 255;
      }
      length += 4;
    }

    private boolean readInto(Text fresh) {
      text = fresh;
      text.empty();
      fault = 0;
      faultPlace = NONE;
      at = 0;
      advance();
      boolean stands = true;
      for (int i = 0; i <= MOST_BYTES && stands && kind != TEXT_END; i++) {
        stands = readClause();
      }
      return stands;
    }

    /** The token come to has this fault; false, so that all that reads can end with it. */
    private boolean failBy(int its) {
      fault = its;
      faultPlace = place;
      return false;
    }

    private boolean readClause() {
      int first = kind;
      law = first - TAKES;
      if (!isBetween(TAKES, first, BIND)) {
        return failBy(FAULT_PLACE);
      }
      if (text.hasLaw(law)) {
        return failBy(FAULT_TWICE);
      }
      if (text.clauses >= MOST_CLAUSES) {
        return failBy(FAULT_CLAUSES);
      }
      text.kinds[text.clauses] = first;
      advance();
      if (first > FALLS) {
        if (!readNumbers(first - STEP)) {
          return false;
        }
      } else {
        text.from[law] = text.codes;
        if (!readPart(first == FALLS ? EITHER : SUM, 0)) {
          return false;
        }
        text.to[law] = text.codes;
      }
      if (kind != ';') {
        return failBy(FAULT_PLACE);
      }
      text.clauses++;
      advance();
      return true;
    }

    private boolean readNumbers(int form) {
      int to = text.clauses * NUMBERS_IN_CLAUSE;
      for (int row = FORM_FROM[form]; row < FORM_FROM[form + 1]; row++) {
        if (FORM_WORD[row] != 0) {
          if (kind != FORM_WORD[row]) {
            return failBy(FAULT_PLACE);
          }
          advance();
        }
        if (kind != NUMBER) {
          return failBy(FAULT_PLACE);
        }
        if (!isBetween(FORM_LEAST[row], number, FORM_MOST[row])) {
          return failBy(FAULT_NUMBER);
        }
        text.numbers[to] = number;
        to++;
        advance();
      }
      return true;
    }

    /** A part of a law: parts of the next level, joined by what joins at this one. */
    private boolean readPart(int level, int depth) {
      if (level == ASK) {
        return readAsk(depth);
      }
      if (level == ONE) {
        return readOne(depth);
      }
      if (!readPart(level + 1, depth)) {
        return false;
      }
      for (int i = 0; i < MOST_BYTES && joinsAt(level); i++) {
        int joint = kind;
        advance();
        if (!readPart(level + 1, depth)) {
          return false;
        }
        text.addCode(joint, 0);
      }
      return true;
    }

    private boolean joinsAt(int level) {
      switch (level) {
        case EITHER: return kind == OR;
        case BOTH: return kind == AND;
        case SUM: return kind == '+' || kind == '-';
        case PRODUCT: return kind == '*' || kind == '/';
        default: return false;
      }
    }

    private boolean readAsk(int depth) {
      if (kind == NOT) {
        if (depth >= MOST_NESTED) {
          return failBy(FAULT_NESTED);
        }
        advance();
        if (!readAsk(depth + 1)) {
          return false;
        }
        text.addCode(NOT, 0);
        return true;
      }
      if (!readPart(SUM, depth)) {
        return false;
      }
      int relation = kind;
      if (relation != '<' && relation != '>' && relation != '=' && relation != '#'
          && relation != NOT_MORE && relation != NOT_LESS) {
        return failBy(FAULT_PLACE);
      }
      advance();
      if (!readPart(SUM, depth)) {
        return false;
      }
      text.addCode(relation, 0);
      return true;
    }

    private boolean readOne(int depth) {
      int first = kind;
      if (first == NUMBER || isName(first)) {
        if (first == NUMBER && number > MOST_NUMBER) {
          return failBy(FAULT_NUMBER);
        }
        if (first != NUMBER && !isNameOfLaw()) {
          return failBy(FAULT_NAME);
        }
        text.addCode(first, number);
        advance();
        return true;
      }
      if (first == ABOVE || first == BELOW) {
        advance();
        if (!isName(kind)) {
          return failBy(FAULT_PLACE);
        }
        if (!isAskedBeside()) {
          return failBy(FAULT_NAME);
        }
        text.addCode(first, kind);
        advance();
        return true;
      }
      if (first != '(' && first != '-') {
        return failBy(FAULT_PLACE);
      }
      if (depth >= MOST_NESTED) {
        return failBy(FAULT_NESTED);
      }
      advance();
      return first == '-' ? readMinus(depth + 1) : readParted(depth + 1);
    }

    private boolean readMinus(int depth) {
      if (!readOne(depth)) {
        return false;
      }
      text.addCode(MINUS, 0);
      return true;
    }

    private boolean readParted(int depth) {
      if (!readPart(SUM, depth)) {
        return false;
      }
      if (kind != ')') {
        return failBy(FAULT_PLACE);
      }
      advance();
      return true;
    }

    private static boolean isName(int word) {
      return word == HOUR || word == STEP || word == SILL || word == WATER || word == FISH
          || word == HIGH || word == WORN || word == WEIGHT || word == OTHER;
    }

    private boolean isNameOfLaw() {
      if (kind == WEIGHT) {
        return law != FLOWS - TAKES;
      }
      return kind != OTHER || law == HAULS - TAKES;
    }

    private boolean isAskedBeside() {
      return kind != HOUR && kind != STEP && kind != WEIGHT && kind != OTHER;
    }

    /** Comes to the next token. */
    private void advance() {
      while (at < length && (tape[at] == ' ' || tape[at] == '\n')) {
        at++;
      }
      place = at;
      number = 0;
      if (at >= length) {
        kind = TEXT_END;
      } else if (isLetter(tape[at])) {
        while (at < length && isLetter(tape[at])) {
          at++;
        }
        kind = wordBetween(place, at);
      } else if (isDigit(tape[at])) {
        kind = NUMBER;
        while (at < length && isDigit(tape[at])) {
          // One more than the greatest is enough to tell that it is too great.
          number = Math.min(MOST_NUMBER + 1, number * 10 + tape[at] - '0');
          at++;
        }
      } else {
        kind = signAt(at);
        at += kind == NOT_MORE || kind == NOT_LESS ? 2 : 1;
      }
    }

    private static boolean isLetter(int sign) {
      return (sign >= 'a' && sign <= 'z') || (sign >= 'A' && sign <= 'Z');
    }

    private static boolean isDigit(int sign) {
      return sign >= '0' && sign <= '9';
    }

    private int signAt(int from) {
      int sign = tape[from];
      if (from + 1 < length && tape[from + 1] == '=') {
        if (sign == '<') {
          return NOT_MORE;
        }
        if (sign == '>') {
          return NOT_LESS;
        }
      }
      for (int i = 0; i < SIGNS.length(); i++) {
        if (SIGNS.charAt(i) == sign) {
          return sign;
        }
      }
      return NO_TOKEN;
    }

    /** Which one of WORDS (each with a blank behind it) stands there. */
    private int wordBetween(int from, int to) {
      int word = FIRST_WORD;
      int letters = 0;
      boolean same = true;
      for (int i = 0; i < WORDS.length(); i++) {
        char letter = WORDS.charAt(i);
        if (letter != ' ') {
          same = same && from + letters < to && tape[from + letters] == letter;
          letters++;
        } else if (same && letters == to - from) {
          return word;
        } else {
          word++;
          letters = 0;
          same = true;
        }
      }
      return NO_TOKEN;
    }
  }

  /** What THE TEXT says of a sea, and what holds without its word. */
  private static final class Laws {
    /** It has no law, and rules when no text does. */
    private final Text none = new Text();
    private Text ruler = none;
    private final int[] stack = new int[STACK];

    private int takes(Sea sea, int step, int weight) {
      return hasLaw(TAKES) ? within(0, valueOf(TAKES, sea, step, weight, 0), MOST_PENCE) : sea.sill[step];
    }

    private int hauls(Sea sea, int step, int weight, int other) {
      if (hasLaw(HAULS)) {
        return within(0, valueOf(HAULS, sea, step, weight, other), MOST_PENCE);
      }
      return Math.max(0, weight - other) * sea.high[step];
    }

    private int wears(Sea sea, int step, int weight) {
      return hasLaw(WEARS) ? within(0, valueOf(WEARS, sea, step, weight, 0), MOST_WORN) : 1;
    }

    private int flows(Sea sea, int step) {
      if (hasLaw(FLOWS)) {
        return within(0, valueOf(FLOWS, sea, step, 0, 0), sea.water[step]);
      }
      return Math.max(0, sea.water[step] - 10 * sea.sill[step]);
    }

    private boolean falls(Sea sea, int step, int weight) {
      if (hasLaw(FALLS)) {
        return valueOf(FALLS, sea, step, weight, 0) != 0;
      }
      return sea.water[step] > 10 * sea.sill[step];
    }

    private boolean hasLaw(int word) {
      return ruler.hasLaw(word - TAKES);
    }

    private static int within(int least, int value, int most) {
      return Math.max(least, Math.min(value, most));
    }

    private int valueOf(int word, Sea sea, int step, int weight, int other) {
      int height = 0;
      for (int i = ruler.from[word - TAKES]; i < ruler.to[word - TAKES]; i++) {
        int op = ruler.ops[i];
        if (op == MINUS || op == NOT) {
          if (height >= 1) {
            stack[height - 1] = op == MINUS ? -stack[height - 1] : 1 - stack[height - 1];
          }
        } else if (op == NUMBER || isBetween(STEP, op, BELOW)) {
          if (height < STACK) {
            stack[height] = named(i, sea, step, weight, other);
            height++;
          }
        } else if (height >= 2) {
          height--;
          stack[height - 1] = cut(joined(op, stack[height - 1], stack[height]));
        }
      }
      return height >= 1 ? stack[0] : 0;
    }

    private int named(int code, Sea sea, int step, int weight, int other) {
      int name = ruler.ops[code];
      int at = step;
      if (name == ABOVE || name == BELOW) {
        at = name == ABOVE ? step - 1 : step + 1;
        name = ruler.args[code];
      }
      if (at < 0 || at >= sea.steps) {
        return 0;
      }
      switch (name) {
        case NUMBER: return ruler.args[code];
        case HOUR: return sea.hour;
        case STEP: return step;
        case HIGH: return sea.high[at];
        case SILL: return sea.sill[at];
        case WATER: return sea.water[at];
        case FISH: return sea.fish[at];
        case WORN: return sea.worn[at];
        case WEIGHT: return weight;
        case OTHER: return other;
        default: return 0;
      }
    }

    private static int cut(long value) {
      return value > MOST_VALUE ? MOST_VALUE : value < -MOST_VALUE ? -MOST_VALUE : (int) value;
    }

    private static long joined(int op, long a, long b) {
      switch (op) {
        case '+': return a + b;
        case '-': return a - b;
        case '*': return a * b;
        case '/': return b == 0 ? 0 : a / b;
        case '<': return a < b ? 1 : 0;
        case '>': return a > b ? 1 : 0;
        case '=': return a == b ? 1 : 0;
        case '#': return a != b ? 1 : 0;
        case NOT_MORE: return a <= b ? 1 : 0;
        case NOT_LESS: return a >= b ? 1 : 0;
        case AND: return a & b;
        case OR: return a | b;
        default: return 0;
      }
    }
  }

  /** Lets an hour pass over a sea. */
  private static final class Hours {
    private final Laws laws;
    private final int[] waterOver = new int[MOST_STEPS];
    private final int[] fishOver = new int[MOST_STEPS];

    private Hours(Laws itsLaws) {
      laws = itsLaws;
    }

    /** How many passages there were: no ship passes twice in an hour. */
    private int passOne(Sea sea) {
      int passed = 0;
      for (int riser = 0; riser < sea.steps - 1; riser++) {
        if (sea.worn[riser] < MOST_WORN) {
          passed |= useRope(sea, riser, passed);
        }
      }
      letWaterOver(sea);
      sea.hour++;
      return Integer.bitCount(passed);
    }

    /** The ships that passed there (bits). */
    private int useRope(Sea sea, int riser, int passed) {
      int down = lowest(sea.bound(riser, true) & ~passed);
      int up = lowest(sea.bound(riser + 1, false) & ~passed);
      if (down == NONE && up == NONE) {
        return 0;
      }
      int downWeight = down == NONE ? 0 : sea.weight[down];
      int upWeight = up == NONE ? 0 : sea.weight[up];
      int passing = 0;
      if (down != NONE) {
        sea.pay(down, laws.takes(sea, riser, downWeight));
        sea.moveTo(down, riser + 1);
        passing |= 1 << down;
      }
      if (up != NONE) {
        sea.pay(up, laws.hauls(sea, riser, upWeight, downWeight));
        sea.moveTo(up, riser);
        passing |= 1 << up;
      }
      int worn = sea.worn[riser] + laws.wears(sea, riser, downWeight + upWeight);
      sea.worn[riser] = Math.min(MOST_WORN, worn);
      return passing;
    }

    private void letWaterOver(Sea sea) {
      for (int i = 0; i < sea.steps; i++) {
        int water = sea.water[i];
        waterOver[i] = laws.flows(sea, i);
        fishOver[i] = water == 0 ? 0 : sea.fish[i] * waterOver[i] / water;
      }
      for (int i = 0; i < sea.steps; i++) {
        int waterIn = i == 0 ? 0 : waterOver[i - 1];
        int fishIn = i == 0 ? 0 : fishOver[i - 1];
        sea.water[i] = Math.min(MOST_STUFF, sea.water[i] - waterOver[i] + waterIn);
        sea.fish[i] = Math.min(MOST_STUFF, sea.fish[i] - fishOver[i] + fishIn);
      }
      if (sea.steps > 0) {
        sea.outWater = Math.min(MOST_OUT, sea.outWater + waterOver[sea.steps - 1]);
        sea.outFish = Math.min(MOST_OUT, sea.outFish + fishOver[sea.steps - 1]);
      }
    }
  }

  /** The cheapest voyage, planned from its end: by how many risers and hours are behind it. */
  private static final class Voyages {
    private final Laws laws;
    /** What is yet to pay. */
    private final int[][] pence = new int[MOST_STEPS][MOST_VOYAGE + 1];
    /** In how many hours, from the first on, it comes. */
    private final int[][] comes = new int[MOST_STEPS][MOST_VOYAGE + 1];
    /** The hours ahead of the next riser. */
    private final int[][] goes = new int[MOST_STEPS][MOST_VOYAGE + 1];

    private Voyages(Laws itsLaws) {
      laws = itsLaws;
    }

    /** Needs 1 to 8 risers and as many hours at least, 48 at most; the sea's hour is lost. */
    private void plan(Sea sea, int weight, int from, int risers, int n) {
      int first = sea.hour;
      for (int t = 0; t <= n; t++) {
        pence[risers][t] = 0;
        comes[risers][t] = t;
      }
      for (int riser = risers - 1; riser >= 0; riser--) {
        int latest = n - risers + riser;
        for (int t = latest; t >= 0; t--) {
          sea.hour = first + t;
          pence[riser][t] = laws.takes(sea, from + riser, weight) + pence[riser + 1][t + 1];
          comes[riser][t] = comes[riser + 1][t + 1];
          goes[riser][t] = t;
          if (t < latest && isWaitBetter(riser, t)) {
            pence[riser][t] = pence[riser][t + 1];
            comes[riser][t] = comes[riser][t + 1];
            goes[riser][t] = goes[riser][t + 1];
          }
        }
      }
    }

    /** Not if all is like: then what goes at once goes soonest. */
    private boolean isWaitBetter(int riser, int t) {
      if (pence[riser][t + 1] != pence[riser][t]) {
        return pence[riser][t + 1] < pence[riser][t];
      }
      return comes[riser][t + 1] < comes[riser][t];
    }

    private int hoursAheadOf(int i) {
      int gone = goes[0][0];
      for (int riser = 1; riser <= i; riser++) {
        gone = goes[riser][gone + 1];
      }
      return gone;
    }
  }

  /** Who hauls whom for least. */
  private static final class Pairs {
    private final Laws laws;
    private final int[] ups = new int[MOST_IN_HAULING];
    private final int[] downs = new int[MOST_IN_HAULING];
    private int upCount;
    private int downCount;
    /** Of each one up with each one down, and with none (behind the last one down). */
    private final int[][] pence = new int[MOST_IN_HAULING][MOST_IN_HAULING + 1];
    private int least;
    /** Of each one up the number of the one down among these. */
    private final int[] best = new int[MOST_IN_HAULING];

    private Pairs(Laws itsLaws) {
      laws = itsLaws;
    }

    private void choose(Sea sea, int step, int up, int down) {
      upCount = listShips(up, ups);
      downCount = listShips(down, downs);
      int ways = 1;
      for (int i = 0; i < upCount; i++) {
        ways *= downCount + 1;
        for (int j = 0; j <= downCount; j++) {
          int other = j < downCount ? sea.weight[downs[j]] : 0;
          pence[i][j] = laws.hauls(sea, step, sea.weight[ups[i]], other);
        }
      }
      int bestWay = 0;
      least = NONE;
      // The lowest one up has the highest digit of a way, so that of like ways the first is the one asked for.
      for (int way = 0; way < ways; way++) {
        int sum = penceOf(way);
        if (sum != NONE && (least == NONE || sum < least)) {
          least = sum;
          bestWay = way;
        }
      }
      for (int i = upCount - 1; i >= 0; i--) {
        best[i] = bestWay % (downCount + 1);
        bestWay /= downCount + 1;
      }
    }

    private static int listShips(int bits, int[] list) {
      int count = 0;
      for (int i = 0; i < MOST_SHIPS && count < list.length; i++) {
        if ((bits & 1 << i) != 0) {
          list[count] = i;
          count++;
        }
      }
      return count;
    }

    /** NONE if it has one down twice. */
    private int penceOf(int way) {
      int sum = 0;
      int used = 0;
      int rest = way;
      for (int i = upCount - 1; i >= 0; i--) {
        int digit = rest % (downCount + 1);
        rest /= downCount + 1;
        if (digit < downCount && (used & 1 << digit) != 0) {
          return NONE;
        }
        used |= 1 << digit;
        sum += pence[i][digit];
      }
      return sum;
    }

    private int partnerOf(int ship) {
      for (int i = 0; i < upCount; i++) {
        int down = best[i] < downCount ? downs[best[i]] : NONE;
        if (ups[i] == ship) {
          return down;
        }
        if (down == ship) {
          return ups[i];
        }
      }
      return NONE;
    }
  }

  /** How states unite, planned from the last step: of the steps from each one on. */
  private static final class Unions {
    private final int[] tolls = new int[MOST_STEPS];
    private final int[] worth = new int[MOST_STEPS + 1];
    private final int[] count = new int[MOST_STEPS + 1];
    /** Where the union behind the first one begins. */
    private final int[] next = new int[MOST_STEPS];

    private void unite(int steps, int k) {
      worth[steps] = 0;
      count[steps] = 0;
      for (int first = steps - 1; first >= 0; first--) {
        next[first] = NONE;
        // The longest first, as it is the one to take of like ones.
        for (int behind = steps; behind > first; behind--) {
          int itsWorth = worthOf(first, behind, k) + worth[behind];
          int itsCount = 1 + count[behind];
          boolean more = next[first] == NONE || itsWorth > worth[first];
          if (more || (itsWorth == worth[first] && itsCount < count[first])) {
            worth[first] = itsWorth;
            count[first] = itsCount;
            next[first] = behind;
          }
        }
      }
    }

    private int worthOf(int first, int behind, int k) {
      int sum = 0;
      for (int i = first; i < behind; i++) {
        sum += tolls[i];
      }
      int size = behind - first;
      return sum * size - k * (size * (size - 1) / 2);
    }

    private int unionOf(int step) {
      int union = 0;
      int behind = next[0];
      for (int i = 0; i < MOST_STEPS && behind <= step; i++) {
        union++;
        behind = next[behind];
      }
      return union;
    }
  }
}
