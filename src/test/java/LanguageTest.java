import java.io.IOException;
import java.lang.management.ManagementFactory;
import java.lang.reflect.Array;
import java.lang.reflect.Constructor;
import java.lang.reflect.Executable;
import java.lang.reflect.Field;
import java.lang.reflect.Method;
import java.lang.reflect.Modifier;
import java.nio.file.Files;
import java.nio.file.Path;
import java.util.ArrayList;
import java.util.IdentityHashMap;
import java.util.List;
import java.util.Map;
import java.util.TreeSet;
import java.util.regex.Matcher;
import java.util.regex.Pattern;

/** The rules of ../shared/LANGUAGE.md that can be seen from outside; run from the project's folder. */
public final class LanguageTest {
  private static final Check CHECK = new Check();
  private static final Path SOURCE = Path.of("src/main/java/SeaWithStairs.java");
  private static final String[] FACE = {
    "step iiii i", "ship iii i", "feed iiiii i", "end i i", "text i", "fault i i", "by i b", "hour i i", "flood ii i",
    "raise ii b", "mend i i", "bind ii b", "played i i", "centuries ii i", "undo i", "ofStep ii i", "ofShip ii i",
    "is i i", "book ii i", "foretoldShip iii i", "foretoldStep iii i", "comes i i", "voyage iiiii i", "hauling iiii i",
    "thing ii i", "upThere ii i", "toRaise i i", "states ii i", "sound ii i", "high ib i", "wreck i i", "inOrder i i",
    "outOfOrder i", "misheard ii i", "apart i i", "chains i i", "waiting ib i", "run b i", "image i", "back i",
    "about i i"
  };

  public static void main(String[] args) throws IOException {
    rule1Face();
    rulesOfClasses();
    String code = withoutCommentsAndTexts(Files.readString(SOURCE));
    rulesOfWords(code);
    rulesOfMethods(code);
    roomOfAnObject();
    roomOfCalls();
    CHECK.end("language");
  }

  private static void holds(String what, boolean so) {
    CHECK.due(what, so, true);
  }

  private static String letters(Class<?>[] types) {
    StringBuilder all = new StringBuilder();
    for (Class<?> type : types) {
      all.append(type.getName().charAt(0));
    }
    return all.toString();
  }

  private static void rule1Face() {
    Class<?> face = SeaWithStairs.class;
    holds("public and final", face.getModifiers() == (Modifier.PUBLIC | Modifier.FINAL));
    TreeSet<String> due = new TreeSet<>(List.of(FACE));
    TreeSet<String> got = new TreeSet<>();
    TreeSet<String> names = new TreeSet<>();
    for (String row : FACE) {
      names.add(row.substring(0, row.indexOf(' ')));
    }
    for (Method method : face.getDeclaredMethods()) {
      if (Modifier.isPublic(method.getModifiers())) {
        String takes = letters(method.getParameterTypes());
        String answers = letters(new Class<?>[] {method.getReturnType()});
        got.add(method.getName() + (takes.isEmpty() ? " " : " " + takes + " ") + answers);
      } else {
        holds(method + " is private", Modifier.isPrivate(method.getModifiers()));
      }
    }
    holds("the face is " + due + ", got " + got, due.equals(got));
    for (Constructor<?> constructor : face.getDeclaredConstructors()) {
      holds("one public constructor", constructor.getParameterCount() == 0);
      holds("one public constructor", Modifier.isPublic(constructor.getModifiers()));
    }
    for (Field field : face.getDeclaredFields()) {
      holds(field + " is private", Modifier.isPrivate(field.getModifiers()) || field.getName().equals("NONE"));
    }
    for (Class<?> one : classes()) {
      for (Method method : one.getDeclaredMethods()) {
        boolean own = one == face && Modifier.isPublic(method.getModifiers());
        holds(method + " bears no name of the face", own || !names.contains(method.getName()));
      }
    }
  }

  private static List<Class<?>> classes() {
    List<Class<?>> all = new ArrayList<>(List.of(SeaWithStairs.class.getDeclaredClasses()));
    all.add(SeaWithStairs.class);
    return all;
  }

  private static void rulesOfClasses() {
    holds("some twelve classes", classes().size() <= 12);
    for (Class<?> one : classes()) {
      int fields = 0;
      for (Field field : one.getDeclaredFields()) {
        if (Modifier.isStatic(field.getModifiers())) {
          holds(field + " is final", Modifier.isFinal(field.getModifiers()));
        } else {
          fields++;
        }
      }
      holds(one + " has some twenty fields", fields <= 20);
      holds(one + " has no classes inside", one == SeaWithStairs.class || one.getDeclaredClasses().length == 0);
      holds(one + " is static", one == SeaWithStairs.class || Modifier.isStatic(one.getModifiers()));
      List<Executable> calls = new ArrayList<>(List.of(one.getDeclaredMethods()));
      calls.addAll(List.of(one.getDeclaredConstructors()));
      for (Executable call : calls) {
        holds(call + " takes at most seven", call.getParameterCount() <= 7);
        holds(call + " is no lambda", !call.isSynthetic());
      }
    }
  }

  /** Comments become blanks, texts become "". */
  private static String withoutCommentsAndTexts(String source) {
    return source.replaceAll("(?s)/\\*.*?\\*/", " ").replaceAll("\"[^\"\n]*\"", "\"\"").replaceAll("//[^\n]*", "");
  }

  private static void rulesOfWords(String code) {
    String[] words = {"throw", "throws", "try", "catch", "finally", "synchronized", "assert", "import", "package", "goto",
        "instanceof", "volatile", "native", "var", "yield", "Object", "System.out", "Random", "Thread", "exit"};
    for (String word : words) {
      Matcher found = Pattern.compile("\\b" + Pattern.quote(word) + "\\b").matcher(code);
      holds("no " + word, !found.find());
    }
    for (String sign : new String[] {"->", "::", "\"\" +", "+ \"\"", "static {"}) {
      holds("no " + sign, !code.contains(sign));
    }
    Matcher library = Pattern.compile("\\b(System|Math|Integer|Long|Arrays|List)\\.(\\w+)").matcher(code);
    while (library.find()) {
      holds(library.group(), List.of("System.arraycopy", "Math.min", "Math.max", "Integer.bitCount").contains(library.group()));
    }
  }

  private static void rulesOfMethods(String code) {
    int begin = -1;
    String[] lines = code.split("\n", -1);
    for (int i = 0; i < lines.length; i++) {
      holds("line " + (i + 1) + " is 150 long at most", lines[i].length() <= 150);
      if (lines[i].matches("( {2}| {4})(private|public) .*\\) \\{")) {
        begin = i;
      }
      if (begin >= 0 && lines[i].matches(" {2}\\}| {4}\\}") && lines[i].indexOf('}') == lines[begin].indexOf('p')) {
        holds("the method at line " + (begin + 1) + " is short", i - begin <= 60);
        begin = -1;
      }
    }
  }

  /** An object has room: few objects and elements, so that some hundred of them could live in one room. */
  private static void roomOfAnObject() {
    Map<Object, Boolean> seen = new IdentityHashMap<>();
    long elements = count(new SeaWithStairs(), seen);
    holds("objects: " + seen.size(), seen.size() <= 1000);
    holds("elements: " + elements, elements <= 20000);
  }

  private static long count(Object one, Map<Object, Boolean> seen) {
    if (one == null || seen.put(one, true) != null) {
      return 0;
    }
    long elements = 0;
    if (one.getClass().isArray()) {
      elements += Array.getLength(one);
      for (int i = 0; i < Array.getLength(one) && !one.getClass().getComponentType().isPrimitive(); i++) {
        elements += count(Array.get(one, i), seen);
      }
      return elements;
    }
    for (Field field : one.getClass().getDeclaredFields()) {
      if (!Modifier.isStatic(field.getModifiers())) {
        field.setAccessible(true);
        elements++;
        try {
          elements += field.getType().isPrimitive() ? 0 : count(field.get(one), seen);
        } catch (IllegalAccessException e) {
          holds(field + " can be seen", false);
        }
      }
    }
    return elements;
  }

  /** No call makes anything at all. */
  private static void roomOfCalls() {
    var threads = (com.sun.management.ThreadMXBean) ManagementFactory.getThreadMXBean();
    long before = 0;
    long least = Long.MAX_VALUE;
    for (int round = 0; round < 20; round++) {
      SeaWithStairs x = new SeaWithStairs();
      Check.tape(x, "takes sill+weight/2;hauls weight;flows water/2;falls water>3;step 9 sill 3 water 40 fish 8;"
          + "step 7 sill 2 water 60 fish 0;ship 20 on 0 to 1;ship 5 on 1 to 0;hour 9;mend 0;");
      before = threads.getCurrentThreadAllocatedBytes();
      callAll(x);
      least = Math.min(least, threads.getCurrentThreadAllocatedBytes() - before);
    }
    holds("bytes that all calls make: " + least, least == 0);
  }

  private static void callAll(SeaWithStairs x) {
    x.text();
    x.fault(0);
    x.by(0);
    x.played(0);
    x.step(1, 2, 3, 4);
    x.ship(1, 0, 2);
    x.feed(1, 2, 3, 4, 5);
    x.end(4);
    x.hour(60);
    x.flood(0, 9);
    x.raise(0, 1);
    x.mend(0);
    x.bind(0, 0);
    x.centuries(7, 40);
    x.undo();
    x.ofStep(0, 6);
    x.ofShip(0, 1);
    x.is(0);
    x.book(0, 0);
    x.foretoldShip(60, 0, 0);
    x.foretoldStep(60, 0, 0);
    x.comes(0);
    x.voyage(5, 0, 1, 48, -2);
    x.hauling(0, 1, 2, -1);
    x.thing(5, 0);
    x.upThere(5, 1);
    x.toRaise(0);
    x.states(5, -1);
    x.sound(0, 20);
    x.high(0, true);
    x.wreck(5);
    x.inOrder(0);
    x.outOfOrder();
    x.misheard(0, 1);
    x.apart(10);
    x.chains(10);
    x.waiting(0, true);
    x.run(true);
    x.image();
    x.back();
    x.about(0);
  }
}
