import java.io.ByteArrayOutputStream;
import java.io.IOException;
import java.io.PrintStream;
import java.lang.reflect.InvocationTargetException;
import java.lang.reflect.Method;
import java.lang.reflect.Modifier;
import java.nio.charset.StandardCharsets;
import java.nio.file.Files;
import java.nio.file.Path;
import java.util.ArrayList;
import java.util.List;
import java.util.TreeMap;
import java.util.TreeSet;
import java.util.regex.Matcher;
import java.util.regex.Pattern;
import java.util.stream.Stream;

/** README.md: each call that it shows is called, each answer compared; run from the project's folder. */
public final class ReadmeTest {
  private static final Check CHECK = new Check();
  private static final Path TESTS = Path.of("src/test/java");
  private static final Pattern CALL = Pattern.compile("sea\\.(\\w+)\\((.*)\\); +// (-?\\d+|true|false)(: .+)?");
  private static final Pattern TOLD = Pattern.compile("Example\\.tell\\(sea, \"(.*)\"\\); +// (-?\\d+)(: .+)?");
  private static final Pattern LAW = Pattern.compile("\\| `(\\w+) (SUM|EITHER);` \\| [^|]+ \\|([^|]*)\\|");
  private static final Pattern FAULT =
      Pattern.compile("\\| (\\d) \\| [^|]+ \\| `([^`|]+)`(?: (\\d+) times)? \\| (\\d+) \\|");
  private static final Pattern ANSWER = Pattern.compile("\\| (`[^|]+`) \\| `(NONE|false|-\\d+)` \\|");
  private static final Pattern NAMED = Pattern.compile("`(\\w+)`");

  public static void main(String[] args) throws IOException {
    String page = Files.readString(Path.of("README.md"));
    List<String> blocks = blocks(page, "java");
    holds("a program and three runs of calls", blocks.size() == 4);
    programIsAsItStands(blocks.get(0), blocks(page, "text"));
    for (int i = 1; i < blocks.size(); i++) {
      callsAnswerAsShown(blocks.get(i));
    }
    holds("no call outside of blocks", !withoutBlocks(page).contains("sea."));
    lawsHaveTheirNames(section(page, "Texts"));
    thingsToDoStand(section(page, "Texts"));
    faultsAreAsShown(section(page, "Texts"));
    wrongArgumentsAreAnsweredAsShown(section(page, "Wrong arguments"));
    eachCallHasItsPlace(section(page, "How it is compiled and called"));
    namedTestsAreThere(section(page, "Tests"));
    CHECK.end("readme");
  }

  private static void holds(String what, boolean so) {
    CHECK.due(what, so, true);
  }

  /** What stands between ```kind and ```. */
  private static List<String> blocks(String page, String kind) {
    List<String> all = new ArrayList<>();
    Matcher block = Pattern.compile("(?s)```" + kind + "\n(.*?)```\n").matcher(page);
    while (block.find()) {
      all.add(block.group(1));
    }
    return all;
  }

  private static String withoutBlocks(String page) {
    return page.replaceAll("(?s)```\\w+\n.*?```\n", "");
  }

  private static String section(String page, String title) {
    Matcher found = Pattern.compile("(?s)\n## " + title + "\n(.*?)(\n## |$)").matcher(page);
    boolean there = found.find();
    holds("a section " + title, there);
    return there ? found.group(1) : "";
  }

  private static void programIsAsItStands(String program, List<String> texts) throws IOException {
    holds("the program is Example.java", program.equals(Files.readString(TESTS.resolve("Example.java"))));
    PrintStream out = System.out;
    ByteArrayOutputStream printed = new ByteArrayOutputStream();
    System.setOut(new PrintStream(printed, true, StandardCharsets.UTF_8));
    try {
      Example.main(new String[0]);
    } finally {
      System.setOut(out);
    }
    String got = printed.toString(StandardCharsets.UTF_8).replace(System.lineSeparator(), "\n");
    holds("Example prints what README.md shows, not " + got, texts.size() == 1 && texts.get(0).equals(got));
  }

  private static void callsAnswerAsShown(String block) {
    String[] lines = block.split("\n");
    holds("a run begins with an object", lines[0].equals("SeaWithStairs sea = new SeaWithStairs();"));
    SeaWithStairs sea = new SeaWithStairs();
    for (int i = 1; i < lines.length; i++) {
      Matcher call = CALL.matcher(lines[i]);
      Matcher told = TOLD.matcher(lines[i]);
      if (call.matches()) {
        CHECK.due(lines[i], call(sea, call.group(1), call.group(2)), valueOf(call.group(3)));
      } else if (told.matches()) {
        CHECK.due(lines[i], Example.tell(sea, told.group(1)), valueOf(told.group(2)));
      } else {
        holds("a call and its answer: " + lines[i], false);
      }
    }
  }

  /** A number, a boolean (1 or 0) or NONE. */
  private static long valueOf(String written) {
    switch (written) {
      case "true": return 1;
      case "false": return 0;
      case "NONE": return SeaWithStairs.NONE;
      case "SeaWithStairs.NONE": return SeaWithStairs.NONE;
      default: return written.startsWith("0x") ? (int) Long.parseLong(written.substring(2), 16) : Long.parseLong(written);
    }
  }

  private static long call(SeaWithStairs sea, String name, String arguments) {
    Method method = face().get(name);
    if (method == null) {
      holds("a call " + name, false);
      return Long.MIN_VALUE;
    }
    String[] written = arguments.isEmpty() ? new String[0] : arguments.split(", ");
    Class<?>[] types = method.getParameterTypes();
    if (written.length != types.length) {
      holds("as many arguments as " + name + " takes: " + arguments, false);
      return Long.MIN_VALUE;
    }
    Object[] values = new Object[types.length];
    for (int i = 0; i < types.length; i++) {
      boolean bool = written[i].equals("true") || written[i].equals("false");
      holds(name + " takes a " + types[i] + ": " + written[i], bool == (types[i] == boolean.class));
      values[i] = types[i] == boolean.class ? (Object) (valueOf(written[i]) == 1) : (Object) (int) valueOf(written[i]);
    }
    return answer(sea, method, values);
  }

  private static long answer(SeaWithStairs sea, Method method, Object[] values) {
    try {
      Object answer = method.invoke(sea, values);
      return answer instanceof Boolean ? ((Boolean) answer ? 1 : 0) : (Integer) answer;
    } catch (IllegalAccessException | InvocationTargetException wrong) {
      holds(method + ": " + wrong, false);
      return Long.MIN_VALUE;
    }
  }

  private static TreeMap<String, Method> face() {
    TreeMap<String, Method> face = new TreeMap<>();
    for (Method method : SeaWithStairs.class.getDeclaredMethods()) {
      if (Modifier.isPublic(method.getModifiers())) {
        face.put(method.getName(), method);
      }
    }
    return face;
  }

  /** A law can ask for the names that its row tells, and for none else of its own. */
  private static void lawsHaveTheirNames(String section) {
    int laws = 0;
    Matcher row = LAW.matcher(section);
    while (row.find()) {
      laws++;
      for (String name : new String[] {"weight", "other"}) {
        SeaWithStairs sea = new SeaWithStairs();
        String text = row.group(1) + " " + name + (row.group(2).equals("EITHER") ? " > 3;" : ";");
        Example.tell(sea, text);
        CHECK.due(text, sea.fault(0), namedIn(row.group(3)).contains(name) ? 0 : 5);
      }
    }
    CHECK.due("laws", laws, 5);
  }

  private static void thingsToDoStand(String section) {
    Matcher found = Pattern.compile("(?s)\nThings to do(.*?)\n\n").matcher(section);
    holds("things to do", found.find());
    int things = 0;
    Matcher thing = Pattern.compile("`([^`]+;)`").matcher(found.group(1));
    while (thing.find()) {
      things++;
      CHECK.due(thing.group(1), Example.tell(new SeaWithStairs(), thing.group(1)), 0);
    }
    CHECK.due("things to do", things, 7);
  }

  private static void faultsAreAsShown(String section) {
    int fault = 0;
    Matcher row = FAULT.matcher(section);
    while (row.find()) {
      fault++;
      CHECK.due("the faults in their order", Integer.parseInt(row.group(1)), fault);
      String text = row.group(2).repeat(row.group(3) == null ? 1 : Integer.parseInt(row.group(3)));
      SeaWithStairs sea = new SeaWithStairs();
      CHECK.due(text, Example.tell(sea, text), SeaWithStairs.NONE);
      CHECK.due(text + ": fault", sea.fault(0), fault);
      CHECK.due(text + ": its byte", sea.fault(1), Integer.parseInt(row.group(4)));
      CHECK.due(text + ": the tape", sea.about(8), 0);
    }
    CHECK.due("faults", fault, 6);
  }

  private static void wrongArgumentsAreAnsweredAsShown(String section) {
    TreeSet<String> due = new TreeSet<>();
    for (Method method : face().values()) {
      if (List.of(method.getParameterTypes()).contains(int.class) && !method.getName().equals("feed")) {
        due.add(method.getName());
      }
    }
    TreeSet<String> told = new TreeSet<>();
    Matcher row = ANSWER.matcher(section);
    while (row.find()) {
      for (String name : namedIn(row.group(1))) {
        holds(name + " stands there once", told.add(name));
        answersToWrongArguments(name, valueOf(row.group(2)));
      }
    }
    holds("wrong arguments of " + due + ", got " + told, due.equals(told));
  }

  private static void answersToWrongArguments(String name, long due) {
    Method method = face().get(name);
    if (method == null) {
      holds("a call " + name, false);
      return;
    }
    Class<?>[] types = method.getParameterTypes();
    for (int wrong : new int[] {Integer.MIN_VALUE, -3, 100000, Integer.MAX_VALUE}) {
      for (SeaWithStairs sea : new SeaWithStairs[] {new SeaWithStairs(), Seas.some(), Seas.full()}) {
        Object[] values = new Object[types.length];
        for (int i = 0; i < types.length; i++) {
          values[i] = types[i] == boolean.class ? (Object) (wrong > 0) : (Object) wrong;
        }
        CHECK.due(name + " of " + wrong, answer(sea, method, values), due);
      }
    }
  }

  private static List<String> namedIn(String part) {
    List<String> names = new ArrayList<>();
    Matcher name = NAMED.matcher(part);
    while (name.find()) {
      names.add(name.group(1));
    }
    return names;
  }

  private static void eachCallHasItsPlace(String section) {
    List<String> named = namedIn(withoutBlocks(section));
    for (String name : face().keySet()) {
      holds(name + " has a place in the table of calls", named.contains(name));
    }
  }

  private static void namedTestsAreThere(String section) throws IOException {
    TreeSet<String> named = new TreeSet<>(namedIn(withoutBlocks(section)));
    named.removeIf(name -> !name.endsWith("Test"));
    TreeSet<String> there = new TreeSet<>();
    try (Stream<Path> files = Files.list(TESTS)) {
      files.forEach(file -> there.add(file.getFileName().toString().replace(".java", "")));
    }
    there.removeIf(name -> !name.endsWith("Test"));
    holds("tests " + there + ", named " + named, there.equals(named));
  }
}
