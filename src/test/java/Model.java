import java.util.ArrayList;
import java.util.Arrays;
import java.util.List;
import java.util.Map;
import java.util.TreeMap;

/**
 * The document told a second time, in the plainest way: trees for laws, deep copies for acts and
 * images, and all ways tried out where the document asks for the best one. Runs are compared with it.
 */
final class Model {
  static final int NONE = -1;

  static final class Fault extends RuntimeException {
    private static final long serialVersionUID = 1L;
    final int number;
    final int place;

    Fault(int number, int place) {
      super(null, null, false, false);
      this.number = number;
      this.place = place;
    }
  }

  record Token(String text, int place) {}

  /** A leaf or a node of a law: word is a number, a name, "above NAME", "below NAME" or what joins. */
  record Tree(String word, Tree left, Tree right) {}

  record Clause(String word, List<Integer> numbers) {}

  static final class Script {
    final List<Clause> clauses = new ArrayList<>();
    final Map<String, Tree> laws = new TreeMap<>();
  }

  static final class Step {
    int high;
    int sill;
    int water;
    int fish;
    int worn;

    Step copy() {
      Step s = new Step();
      s.high = high;
      s.sill = sill;
      s.water = water;
      s.fish = fish;
      s.worn = worn;
      return s;
    }
  }

  static final class Ship {
    int weight;
    int on;
    int goal;
    int paid;

    Ship copy() {
      Ship s = new Ship();
      s.weight = weight;
      s.on = on;
      s.goal = goal;
      s.paid = paid;
      return s;
    }
  }

  static final class Sea {
    List<Step> steps = new ArrayList<>();
    List<Ship> ships = new ArrayList<>();
    int hour;
    int outWater;
    int outFish;
    int x = 83;
    List<int[]> book = new ArrayList<>();

    Sea copy() {
      Sea s = new Sea();
      for (Step step : steps) {
        s.steps.add(step.copy());
      }
      for (Ship ship : ships) {
        s.ships.add(ship.copy());
      }
      s.hour = hour;
      s.outWater = outWater;
      s.outFish = outFish;
      s.x = x;
      s.book.addAll(book);
      return s;
    }
  }

  /** All that an image holds. */
  static final class All {
    Sea sea = new Sea();
    List<Step> stepsAsTold = new ArrayList<>();
    List<Ship> shipsAsTold = new ArrayList<>();
    List<Sea> acts = new ArrayList<>();
    List<Script> texts = new ArrayList<>();
    int ruling = NONE;
    List<int[]> sounds = new ArrayList<>();
    List<Integer> wrecks = new ArrayList<>();
    List<int[]> misheard = new ArrayList<>();

    All copy() {
      All a = new All();
      a.sea = sea.copy();
      a.stepsAsTold.addAll(stepsAsTold);
      a.shipsAsTold.addAll(shipsAsTold);
      for (Sea act : acts) {
        a.acts.add(act.copy());
      }
      a.texts.addAll(texts);
      a.ruling = ruling;
      a.sounds.addAll(sounds);
      a.wrecks.addAll(wrecks);
      a.misheard.addAll(misheard);
      return a;
    }
  }

  All all = new All();
  All kept = new All();
  List<Integer> tape = new ArrayList<>();
  int fault = NONE;
  int faultPlace = NONE;

  // ---- Reading.

  private List<Token> tokens;
  private int at;
  private String law;

  static boolean isLetter(int c) {
    return "abcdefghijklmnopqrstuvwxyzABCDEFGHIJKLMNOPQRSTUVWXYZ".indexOf(c) >= 0;
  }

  static boolean isDigit(int c) {
    return "0123456789".indexOf(c) >= 0;
  }

  private static List<Token> cut(List<Integer> bytes) {
    List<Token> list = new ArrayList<>();
    StringBuilder all = new StringBuilder();
    for (int b : bytes) {
      all.append((char) b);
    }
    int i = 0;
    while (i < all.length()) {
      char c = all.charAt(i);
      int from = i;
      if (c == ' ' || c == '\n') {
        i++;
        continue;
      }
      if (isLetter(c)) {
        while (i < all.length() && isLetter(all.charAt(i))) {
          i++;
        }
      } else if (isDigit(c)) {
        while (i < all.length() && isDigit(all.charAt(i))) {
          i++;
        }
      } else if (i + 1 < all.length() && List.of("<=", ">=").contains(all.substring(i, i + 2))) {
        i += 2;
      } else {
        i++;
      }
      list.add(new Token(all.substring(from, i), from));
    }
    list.add(new Token("", all.length()));
    return list;
  }

  private Token token() {
    return tokens.get(at);
  }

  private Fault bad(int number) {
    return new Fault(number, token().place());
  }

  private boolean see(String word) {
    return token().text().equals(word);
  }

  private void expect(String word) {
    if (!see(word)) {
      throw bad(1);
    }
    at++;
  }

  private int number(int least, int most) {
    String text = token().text();
    if (text.isEmpty() || !isDigit(text.charAt(0))) {
      throw bad(1);
    }
    java.math.BigInteger n = new java.math.BigInteger(text);
    if (n.compareTo(java.math.BigInteger.valueOf(least)) < 0 || n.compareTo(java.math.BigInteger.valueOf(most)) > 0) {
      throw bad(2);
    }
    at++;
    return n.intValue();
  }

  private Script script() {
    Script script = new Script();
    while (!see("")) {
      String word = token().text();
      boolean isLaw = List.of("takes", "hauls", "wears", "flows", "falls").contains(word);
      if (!isLaw && !List.of("step", "ship", "hour", "flood", "raise", "mend", "bind").contains(word)) {
        throw bad(1);
      }
      if (script.laws.containsKey(word)) {
        throw bad(4);
      }
      if (script.clauses.size() == 24) {
        throw bad(6);
      }
      at++;
      List<Integer> numbers = new ArrayList<>();
      if (isLaw) {
        law = word;
        script.laws.put(word, word.equals("falls") ? either(0) : sum(0));
      } else {
        numbers(word, numbers);
      }
      expect(";");
      script.clauses.add(new Clause(word, numbers));
    }
    return script;
  }

  private void numbers(String word, List<Integer> numbers) {
    switch (word) {
      case "step" -> {
        numbers.add(number(1, 99));
        expect("sill");
        numbers.add(number(0, 99));
        expect("water");
        numbers.add(number(0, 999));
        expect("fish");
        numbers.add(number(0, 999));
      }
      case "ship" -> {
        numbers.add(number(1, 99));
        expect("on");
        numbers.add(number(0, 8));
        expect("to");
        numbers.add(number(0, 8));
      }
      case "hour" -> numbers.add(number(1, 60));
      case "flood" -> {
        numbers.add(number(0, 8));
        expect("by");
        numbers.add(number(1, 999));
      }
      case "raise" -> {
        numbers.add(number(0, 8));
        expect("to");
        numbers.add(number(0, 99));
      }
      case "mend" -> numbers.add(number(0, 8));
      default -> {
        numbers.add(number(0, 6));
        expect("to");
        numbers.add(number(0, 8));
      }
    }
  }

  private Tree either(int open) {
    Tree tree = both(open);
    while (see("or")) {
      at++;
      tree = new Tree("or", tree, both(open));
    }
    return tree;
  }

  private Tree both(int open) {
    Tree tree = ask(open);
    while (see("and")) {
      at++;
      tree = new Tree("and", tree, ask(open));
    }
    return tree;
  }

  private Tree ask(int open) {
    if (see("not")) {
      if (open == 8) {
        throw bad(3);
      }
      at++;
      return new Tree("not", ask(open + 1), null);
    }
    Tree left = sum(open);
    String word = token().text();
    if (!List.of("<", "<=", ">", ">=", "=", "#").contains(word)) {
      throw bad(1);
    }
    at++;
    return new Tree(word, left, sum(open));
  }

  private Tree sum(int open) {
    Tree tree = product(open);
    while (see("+") || see("-")) {
      String word = token().text();
      at++;
      tree = new Tree(word, tree, product(open));
    }
    return tree;
  }

  private Tree product(int open) {
    Tree tree = one(open);
    while (see("*") || see("/")) {
      String word = token().text();
      at++;
      tree = new Tree(word, tree, one(open));
    }
    return tree;
  }

  private static final List<String> BESIDE = List.of("high", "sill", "water", "fish", "worn");
  private static final List<String> NAMES =
      List.of("hour", "step", "high", "sill", "water", "fish", "worn", "weight", "other");

  private Tree one(int open) {
    String word = token().text();
    if (!word.isEmpty() && isDigit(word.charAt(0))) {
      return new Tree(String.valueOf(number(0, 9999)), null, null);
    }
    if (NAMES.contains(word)) {
      boolean unfit = (word.equals("weight") && law.equals("flows")) || (word.equals("other") && !law.equals("hauls"));
      if (unfit) {
        throw bad(5);
      }
      at++;
      return new Tree(word, null, null);
    }
    if (word.equals("above") || word.equals("below")) {
      at++;
      String name = token().text();
      if (!NAMES.contains(name)) {
        throw bad(1);
      }
      if (!BESIDE.contains(name)) {
        throw bad(5);
      }
      at++;
      return new Tree(word + " " + name, null, null);
    }
    if (!word.equals("(") && !word.equals("-")) {
      throw bad(1);
    }
    if (open == 8) {
      throw bad(3);
    }
    at++;
    if (word.equals("-")) {
      return new Tree("minus", one(open + 1), null);
    }
    Tree tree = sum(open + 1);
    expect(")");
    return tree;
  }

  // ---- Laws.

  private static long bounded(long least, long value, long most) {
    return value < least ? least : value > most ? most : value;
  }

  private long value(Tree t, Sea sea, int step, int weight, int other) {
    if (t.left() == null) {
      return leaf(t.word(), sea, step, weight, other);
    }
    long a = value(t.left(), sea, step, weight, other);
    long b = t.right() == null ? 0 : value(t.right(), sea, step, weight, other);
    long all = switch (t.word()) {
      case "minus" -> -a;
      case "not" -> a == 0 ? 1 : 0;
      case "+" -> a + b;
      case "-" -> a - b;
      case "*" -> a * b;
      case "/" -> b == 0 ? 0 : a / b;
      case "<" -> a < b ? 1 : 0;
      case "<=" -> a <= b ? 1 : 0;
      case ">" -> a > b ? 1 : 0;
      case ">=" -> a >= b ? 1 : 0;
      case "=" -> a == b ? 1 : 0;
      case "#" -> a != b ? 1 : 0;
      case "or" -> a + b > 0 ? 1 : 0;
      case "and" -> a * b > 0 ? 1 : 0;
      default -> throw new IllegalStateException(t.word());
    };
    return bounded(-1000000, all, 1000000);
  }

  private static long leaf(String word, Sea sea, int step, int weight, int other) {
    if (isDigit(word.charAt(0))) {
      return Long.parseLong(word);
    }
    String name = word;
    int asked = step;
    if (word.startsWith("above ")) {
      asked--;
      name = word.substring(6);
    } else if (word.startsWith("below ")) {
      asked++;
      name = word.substring(6);
    }
    if (asked < 0 || asked >= sea.steps.size()) {
      return 0;
    }
    Step s = sea.steps.get(asked);
    return switch (name) {
      case "hour" -> sea.hour;
      case "step" -> step;
      case "high" -> s.high;
      case "sill" -> s.sill;
      case "water" -> s.water;
      case "fish" -> s.fish;
      case "worn" -> s.worn;
      case "weight" -> weight;
      case "other" -> other;
      default -> throw new IllegalStateException(name);
    };
  }

  private Tree lawOf(String word) {
    return all.ruling == NONE ? null : all.texts.get(all.ruling).laws.get(word);
  }

  private int takes(Sea sea, int step, int weight) {
    Tree tree = lawOf("takes");
    return tree == null ? sea.steps.get(step).sill : (int) bounded(0, value(tree, sea, step, weight, 0), 9999);
  }

  private int hauls(Sea sea, int step, int weight, int other) {
    Tree tree = lawOf("hauls");
    if (tree == null) {
      return weight > other ? (weight - other) * sea.steps.get(step).high : 0;
    }
    return (int) bounded(0, value(tree, sea, step, weight, other), 9999);
  }

  private int wears(Sea sea, int step, int weight) {
    Tree tree = lawOf("wears");
    return tree == null ? 1 : (int) bounded(0, value(tree, sea, step, weight, 0), 100);
  }

  private int flows(Sea sea, int step) {
    Step s = sea.steps.get(step);
    Tree tree = lawOf("flows");
    return (int) bounded(0, tree == null ? s.water - 10 * s.sill : value(tree, sea, step, 0, 0), s.water);
  }

  private boolean falls(Sea sea, int step, int weight) {
    Step s = sea.steps.get(step);
    Tree tree = lawOf("falls");
    return tree == null ? s.water > 10 * s.sill : value(tree, sea, step, weight, 0) == 1;
  }

  // ---- Hours.

  private int pass(Sea sea) {
    List<Integer> passed = new ArrayList<>();
    for (int r = 0; r + 1 < sea.steps.size(); r++) {
      Step step = sea.steps.get(r);
      if (step.worn >= 100) {
        continue;
      }
      int down = NONE;
      int up = NONE;
      for (int s = sea.ships.size() - 1; s >= 0; s--) {
        Ship ship = sea.ships.get(s);
        if (passed.contains(s)) {
          continue;
        }
        if (ship.on == r && ship.goal > r) {
          down = s;
        }
        if (ship.on == r + 1 && ship.goal <= r) {
          up = s;
        }
      }
      int downWeight = down == NONE ? 0 : sea.ships.get(down).weight;
      int upWeight = up == NONE ? 0 : sea.ships.get(up).weight;
      int worn = wears(sea, r, downWeight + upWeight);
      if (down != NONE) {
        go(sea, down, r + 1, takes(sea, r, downWeight), passed);
      }
      if (up != NONE) {
        go(sea, up, r, hauls(sea, r, upWeight, downWeight), passed);
      }
      if (down != NONE || up != NONE) {
        step.worn = Math.min(100, step.worn + worn);
      }
    }
    water(sea);
    sea.hour++;
    return passed.size();
  }

  private static void go(Sea sea, int s, int to, int pence, List<Integer> passed) {
    Ship ship = sea.ships.get(s);
    ship.on = to;
    ship.paid = Math.min(99999, ship.paid + pence);
    passed.add(s);
    sea.book.add(new int[] {sea.hour, s, to});
    while (sea.book.size() > 40) {
      sea.book.remove(0);
    }
  }

  private void water(Sea sea) {
    Sea before = sea.copy();
    int n = sea.steps.size();
    for (int i = 0; i < n; i++) {
      int flow = flows(before, i);
      int w = before.steps.get(i).water;
      int f = w == 0 ? 0 : before.steps.get(i).fish * flow / w;
      sea.steps.get(i).water -= flow;
      sea.steps.get(i).fish -= f;
      if (i + 1 < n) {
        sea.steps.get(i + 1).water += flow;
        sea.steps.get(i + 1).fish += f;
      } else {
        sea.outWater = Math.min(99999999, sea.outWater + flow);
        sea.outFish = Math.min(99999999, sea.outFish + f);
      }
    }
    for (Step s : sea.steps) {
      s.water = Math.min(999, s.water);
      s.fish = Math.min(999, s.fish);
    }
  }

  private void act() {
    all.acts.add(all.sea.copy());
    while (all.acts.size() > 30) {
      all.acts.remove(0);
    }
  }

  private Sea foretold(int n) {
    Sea sea = all.sea.copy();
    for (int i = 0; i < n; i++) {
      pass(sea);
    }
    return sea;
  }

  // ---- The face.

  private int steps() {
    return all.sea.steps.size();
  }

  private int ships() {
    return all.sea.ships.size();
  }

  private boolean noStep(int step) {
    return step < 0 || step >= steps();
  }

  private boolean noShip(int ship) {
    return ship < 0 || ship >= ships();
  }

  private static boolean out(int least, int value, int most) {
    return value < least || value > most;
  }

  int step(int high, int sill, int water, int fish) {
    if (out(1, high, 99) || out(0, sill, 99) || out(0, water, 999) || out(0, fish, 999) || steps() == 9) {
      return NONE;
    }
    Step s = new Step();
    s.high = high;
    s.sill = sill;
    s.water = water;
    s.fish = fish;
    all.sea.steps.add(s);
    all.stepsAsTold.add(s.copy());
    return steps() - 1;
  }

  int ship(int weight, int on, int goal) {
    if (out(1, weight, 99) || noStep(on) || noStep(goal) || ships() == 7) {
      return NONE;
    }
    Ship s = new Ship();
    s.weight = weight;
    s.on = on;
    s.goal = goal;
    all.sea.ships.add(s);
    all.shipsAsTold.add(s.copy());
    return ships() - 1;
  }

  int feed(int a, int b, int c, int d, int e) {
    if (tape.size() > 280) {
      return NONE;
    }
    for (int four : new int[] {a, b, c, d, e}) {
      for (byte one : java.nio.ByteBuffer.allocate(4).putInt(four).array()) {
        tape.add(one & 0xff);
      }
    }
    return tape.size();
  }

  int end(int n) {
    if (n < 0 || n > tape.size()) {
      return NONE;
    }
    tape = new ArrayList<>(tape.subList(0, n));
    return n;
  }

  int text() {
    if (all.texts.size() == 4) {
      return NONE;
    }
    try {
      tokens = cut(tape);
      at = 0;
      tape = new ArrayList<>();
      Script script = script();
      all.texts.add(script);
      fault = 0;
      faultPlace = NONE;
      return all.texts.size() - 1;
    } catch (Fault f) {
      fault = f.number;
      faultPlace = f.place;
      return NONE;
    }
  }

  int fault(int what) {
    return what == 0 ? fault : what == 1 ? faultPlace : NONE;
  }

  boolean by(int text) {
    if (out(-1, text, all.texts.size() - 1)) {
      return false;
    }
    all.ruling = text;
    return true;
  }

  int hour(int n) {
    if (out(1, n, 60) || all.sea.hour + n > 9999) {
      return NONE;
    }
    int passages = 0;
    for (int i = 0; i < n; i++) {
      act();
      passages += pass(all.sea);
    }
    return passages;
  }

  int flood(int step, int n) {
    if (noStep(step) || out(1, n, 999)) {
      return NONE;
    }
    act();
    Step s = all.sea.steps.get(step);
    s.water = Math.min(999, s.water + n);
    return s.water;
  }

  boolean raise(int step, int sill) {
    if (noStep(step) || out(0, sill, 99) || all.sea.steps.get(step).sill == sill) {
      return false;
    }
    act();
    all.sea.steps.get(step).sill = sill;
    return true;
  }

  int mend(int step) {
    if (noStep(step) || step == steps() - 1) {
      return NONE;
    }
    act();
    int worn = all.sea.steps.get(step).worn;
    all.sea.steps.get(step).worn = 0;
    return worn;
  }

  boolean bind(int ship, int goal) {
    if (noShip(ship) || noStep(goal) || all.sea.ships.get(ship).goal == goal) {
      return false;
    }
    act();
    all.sea.ships.get(ship).goal = goal;
    return true;
  }

  int played(int text) {
    if (out(0, text, all.texts.size() - 1)) {
      return -2;
    }
    List<Clause> clauses = all.texts.get(text).clauses;
    for (int i = 0; i < clauses.size(); i++) {
      List<Integer> n = clauses.get(i).numbers();
      boolean done = switch (clauses.get(i).word()) {
        case "step" -> step(n.get(0), n.get(1), n.get(2), n.get(3)) != NONE;
        case "ship" -> ship(n.get(0), n.get(1), n.get(2)) != NONE;
        case "hour" -> {
          boolean all = true;
          for (int h = 0; h < n.get(0); h++) {
            all = hour(1) != NONE && all;
          }
          yield all;
        }
        case "flood" -> flood(n.get(0), n.get(1)) != NONE;
        case "raise" -> raise(n.get(0), n.get(1));
        case "mend" -> mend(n.get(0)) != NONE;
        case "bind" -> bind(n.get(0), n.get(1));
        default -> true;
      };
      if (!done) {
        return i;
      }
    }
    return NONE;
  }

  int centuries(int seed, int n) {
    if (out(0, seed, 9999) || out(1, n, 40) || steps() == 0 || ships() == 0) {
      return NONE;
    }
    act();
    Sea sea = all.sea;
    sea.x = seed * 2 + 83;
    for (int i = 0; i < n; i++) {
      int x = sea.x;
      sea.x = (x * 293 + 191) % 30313;
      Step step = sea.steps.get(x % steps());
      if (x % 6 == 0) {
        step.water = Math.min(999, step.water + 1 + x % 200);
      } else if (x % 6 == 1) {
        step.sill = x % 30;
      } else if (x % 6 == 2) {
        step.worn = 0;
      } else if (x % 6 == 3) {
        sea.ships.get(x % ships()).goal = x % steps();
      } else if (sea.hour < 9999) {
        pass(sea);
      }
    }
    return sea.hour;
  }

  int undo() {
    if (all.acts.isEmpty()) {
      return NONE;
    }
    Sea was = all.acts.remove(all.acts.size() - 1);
    for (int i = was.steps.size(); i < steps(); i++) {
      was.steps.add(all.stepsAsTold.get(i).copy());
    }
    for (int i = was.ships.size(); i < ships(); i++) {
      was.ships.add(all.shipsAsTold.get(i).copy());
    }
    all.sea = was;
    return all.acts.size();
  }

  int ofStep(int step, int what) {
    if (noStep(step)) {
      return NONE;
    }
    Step s = all.sea.steps.get(step);
    int bits = 0;
    for (int i = 0; i < ships(); i++) {
      bits += all.sea.ships.get(i).on == step ? 1 << i : 0;
    }
    return switch (what) {
      case 0 -> s.high;
      case 1 -> s.sill;
      case 2 -> s.water;
      case 3 -> s.fish;
      case 4 -> s.worn;
      case 5 -> bits;
      case 6 -> flows(all.sea, step);
      default -> NONE;
    };
  }

  int ofShip(int ship, int what) {
    if (noShip(ship)) {
      return NONE;
    }
    Ship s = all.sea.ships.get(ship);
    return switch (what) {
      case 0 -> s.weight;
      case 1 -> s.on;
      case 2 -> s.goal;
      case 3 -> s.paid;
      default -> NONE;
    };
  }

  int is(int what) {
    return switch (what) {
      case 0 -> all.sea.hour;
      case 1 -> all.sea.outWater;
      case 2 -> all.sea.outFish;
      case 3 -> all.sea.x;
      default -> -2;
    };
  }

  int book(int i, int what) {
    if (i == NONE) {
      return all.sea.book.size();
    }
    if (i < 0 || i >= all.sea.book.size() || out(0, what, 2)) {
      return -2;
    }
    return all.sea.book.get(i)[what];
  }

  int foretoldShip(int n, int ship, int what) {
    if (out(1, n, 60) || noShip(ship) || out(0, what, 1)) {
      return NONE;
    }
    Ship s = foretold(n).ships.get(ship);
    return what == 0 ? s.on : s.paid;
  }

  int foretoldStep(int n, int step, int what) {
    if (out(1, n, 60) || noStep(step) || out(0, what, 1)) {
      return NONE;
    }
    Step s = foretold(n).steps.get(step);
    return what == 0 ? s.water : s.fish;
  }

  private int comesWithin(int ship, int most) {
    Sea sea = all.sea.copy();
    for (int n = 0; n <= most; n++) {
      if (sea.ships.get(ship).on == sea.ships.get(ship).goal) {
        return n;
      }
      pass(sea);
    }
    return NONE;
  }

  int comes(int ship) {
    return noShip(ship) ? NONE : comesWithin(ship, 60);
  }

  /** Ways down so far: pence, then the hours ahead of each riser. Of those at the same place at the same time the best. */
  int voyage(int weight, int from, int to, int n, int i) {
    if (out(1, weight, 99) || noStep(from) || noStep(to) || from >= to || out(1, n, 48)) {
      return -100;
    }
    Map<Integer, int[]> ways = new TreeMap<>();
    ways.put(-1, new int[] {0});
    for (int r = from; r < to; r++) {
      Map<Integer, int[]> next = new TreeMap<>();
      for (Map.Entry<Integer, int[]> way : ways.entrySet()) {
        for (int t = way.getKey() + 1; t < n; t++) {
          Sea sea = all.sea.copy();
          sea.hour += t;
          int[] longer = Arrays.copyOf(way.getValue(), way.getValue().length + 1);
          longer[0] += takes(sea, r, weight);
          longer[longer.length - 1] = t;
          if (!next.containsKey(t) || Arrays.compare(longer, next.get(t)) < 0) {
            next.put(t, longer);
          }
        }
      }
      ways = next;
    }
    int[] best = null;
    for (int[] way : ways.values()) {
      boolean better = best == null || way[0] < best[0];
      if (best != null && way[0] == best[0]) {
        int last = way.length - 1;
        better = way[last] < best[last] || (way[last] == best[last] && Arrays.compare(way, best) < 0);
      }
      best = better ? way : best;
    }
    if (best == null || out(-2, i, to - from - 1)) {
      return -100;
    }
    return i == -2 ? best[0] : i == NONE ? best[best.length - 1] + 1 : best[i + 1];
  }

  private List<int[]> pairings(Sea sea, int step, List<Integer> ups, List<Integer> downs) {
    List<int[]> list = new ArrayList<>();
    if (ups.isEmpty()) {
      list.add(new int[] {0});
      return list;
    }
    List<Integer> choices = new ArrayList<>(downs);
    choices.add(NONE);
    for (int choice : choices) {
      List<Integer> others = new ArrayList<>(downs);
      others.remove((Integer) choice);
      int other = choice == NONE ? 0 : sea.ships.get(choice).weight;
      int pence = hauls(sea, step, sea.ships.get(ups.get(0)).weight, other);
      for (int[] rest : pairings(sea, step, ups.subList(1, ups.size()), others)) {
        int[] one = new int[rest.length + 1];
        one[0] = rest[0] + pence;
        one[1] = choice;
        System.arraycopy(rest, 1, one, 2, rest.length - 1);
        list.add(one);
      }
    }
    return list;
  }

  private static List<Integer> listed(int bits) {
    List<Integer> list = new ArrayList<>();
    for (int i = 0; i < 31; i++) {
      if ((bits >> i & 1) == 1) {
        list.add(i);
      }
    }
    return list;
  }

  int hauling(int step, int up, int down, int ship) {
    if (noStep(step) || step == steps() - 1 || up < 0 || down < 0 || up >> ships() != 0 || down >> ships() != 0) {
      return -2;
    }
    List<Integer> ups = listed(up);
    List<Integer> downs = listed(down);
    if (out(1, ups.size(), 4) || downs.size() > 4 || (up & down) != 0) {
      return -2;
    }
    if (ship != NONE && !ups.contains(ship) && !downs.contains(ship)) {
      return -2;
    }
    int[] best = null;
    for (int[] way : pairings(all.sea, step, ups, downs)) {
      if (best == null || way[0] < best[0]) {
        best = way;
      }
    }
    if (ship == NONE) {
      return best[0];
    }
    for (int i = 0; i < ups.size(); i++) {
      if (ups.get(i) == ship) {
        return best[i + 1];
      }
      if (best[i + 1] == ship) {
        return ups.get(i);
      }
    }
    return NONE;
  }

  int thing(int weight, int step) {
    if (out(1, weight, 99) || noStep(step)) {
      return NONE;
    }
    if (!falls(all.sea, step, weight)) {
      return step;
    }
    return step == steps() - 1 ? steps() : thing(weight, step + 1);
  }

  int upThere(int weight, int step) {
    if (out(1, weight, 99) || noStep(step)) {
      return NONE;
    }
    int bits = 1 << step;
    for (int s = step - 1; s >= 0 && falls(all.sea, s, weight); s--) {
      bits += 1 << s;
    }
    return bits;
  }

  int toRaise(int step) {
    if (noStep(step)) {
      return NONE;
    }
    Sea sea = all.sea.copy();
    while (sea.steps.get(step).sill <= 99) {
      if (flows(sea, step) == 0) {
        return sea.steps.get(step).sill;
      }
      sea.steps.get(step).sill++;
    }
    return NONE;
  }

  int states(int k, int step) {
    if (out(0, k, 999) || out(-1, step, steps() - 1) || steps() == 0) {
      return -1000000000;
    }
    int n = steps();
    int[] best = null;
    // A way: less its worth, how many, less the lengths; so that the least way is the one asked for.
    for (int cuts = 0; cuts < 1 << n - 1; cuts++) {
      int[] way = new int[2 + n];
      int sum = 0;
      int size = 0;
      for (int i = 0; i < n; i++) {
        sum += takes(all.sea, i, 10);
        size++;
        if (i == n - 1 || (cuts >> i & 1) == 1) {
          way[0] -= sum * size - k * size * (size - 1) / 2;
          way[2 + way[1]] = -size;
          way[1]++;
          sum = 0;
          size = 0;
        }
      }
      if (best == null || Arrays.compare(way, best) < 0) {
        best = way;
      }
    }
    if (step == NONE) {
      return -best[0];
    }
    int union = 0;
    int behind = -best[2];
    while (step >= behind) {
      union++;
      behind -= best[2 + union];
    }
    return union;
  }

  int sound(int step, int s) {
    if (step == NONE) {
      all.sounds = new ArrayList<>();
      return 0;
    }
    if (out(0, step, 8) || out(0, s, 99) || all.sounds.size() == 8) {
      return -2;
    }
    all.sounds.add(new int[] {step, s});
    return all.sounds.size();
  }

  int high(int step, boolean most) {
    List<Integer> fit = new ArrayList<>();
    for (int high = 1; high <= 99; high++) {
      int beats = (int) Math.floor(Math.sqrt(10.0 * high));
      int its = high;
      if (all.sounds.stream().allMatch(one -> one[0] != step || (one[1] == beats && its > 0))) {
        fit.add(high);
      }
    }
    if (out(0, step, 8) || fit.isEmpty()) {
      return NONE;
    }
    return fit.get(most ? fit.size() - 1 : 0);
  }

  int wreck(int reign) {
    if (reign == NONE) {
      all.wrecks = new ArrayList<>();
      return 0;
    }
    if (out(0, reign, 99) || all.wrecks.size() == 10) {
      return -2;
    }
    all.wrecks.add(reign);
    return all.wrecks.size();
  }

  int inOrder(int i) {
    int[] best = new int[0];
    for (int set = 0; set < 1 << all.wrecks.size(); set++) {
      int[] row = listed(set).stream().mapToInt(all.wrecks::get).toArray();
      boolean rises = true;
      for (int at = 1; at < row.length; at++) {
        rises &= row[at] > row[at - 1];
      }
      if (rises && (row.length > best.length || (row.length == best.length && Arrays.compare(row, best) < 0))) {
        best = row;
      }
    }
    return i == NONE ? best.length : out(0, i, best.length - 1) ? -2 : best[i];
  }

  int outOfOrder() {
    int n = 0;
    for (int i = 0; i < all.wrecks.size(); i++) {
      int low = all.wrecks.get(i);
      n += all.wrecks.subList(i, all.wrecks.size()).stream().filter(r -> r < low).count();
    }
    return n;
  }

  int misheard(int one, int other) {
    if (one == NONE) {
      all.misheard = new ArrayList<>();
      return 0;
    }
    if (out(0, one, 9) || out(0, other, 9) || one == other || all.misheard.size() == 15) {
      return -2;
    }
    all.misheard.add(new int[] {one, other});
    return all.misheard.size();
  }

  int apart(int n) {
    if (out(1, n, 10)) {
      return NONE;
    }
    int best = 0;
    for (int set = (1 << n) - 1; set > 0; set--) {
      List<Integer> words = listed(set);
      boolean apart = all.misheard.stream().noneMatch(two -> words.contains(two[0]) && words.contains(two[1]));
      if (apart && words.size() >= listed(best).size()) {
        best = set;
      }
    }
    return best;
  }

  int chains(int n) {
    if (out(1, n, 10)) {
      return NONE;
    }
    int[] chain = new int[n];
    for (int i = 0; i < n; i++) {
      chain[i] = i;
    }
    int parts = n;
    for (int[] two : all.misheard) {
      if (two[0] < n && two[1] < n && chain[two[0]] != chain[two[1]]) {
        int gone = chain[two[0]];
        for (int i = 0; i < n; i++) {
          chain[i] = chain[i] == gone ? chain[two[1]] : chain[i];
        }
        parts--;
      }
    }
    return parts;
  }

  int waiting(int step, boolean down) {
    if (noStep(step)) {
      return NONE;
    }
    int bits = 0;
    for (int i = 0; i < ships(); i++) {
      Ship s = all.sea.ships.get(i);
      bits |= s.on == step && s.goal != step && s.goal > step == down ? 1 << i : 0;
    }
    return bits;
  }

  int run(boolean last) {
    int most = NONE;
    int who = NONE;
    for (int i = 0; i < ships(); i++) {
      int n = comesWithin(i, 48);
      if (n == NONE) {
        return NONE;
      }
      if (n > most) {
        most = n;
        who = i;
      }
    }
    return last ? who : most;
  }

  int image() {
    kept = all.copy();
    return all.sea.hour;
  }

  int back() {
    all = kept.copy();
    return all.sea.hour;
  }

  int about(int what) {
    return switch (what) {
      case 0 -> steps();
      case 1 -> ships();
      case 2 -> all.texts.size();
      case 3 -> all.ruling;
      case 4 -> all.acts.size();
      case 5 -> all.sounds.size();
      case 6 -> all.wrecks.size();
      case 7 -> all.misheard.size();
      case 8 -> tape.size();
      default -> -2;
    };
  }
}
