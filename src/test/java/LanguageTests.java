import com.sun.management.ThreadMXBean;
import java.io.IOException;
import java.lang.management.ManagementFactory;
import java.lang.reflect.Constructor;
import java.lang.reflect.Field;
import java.lang.reflect.Method;
import java.lang.reflect.Modifier;
import java.nio.file.Files;
import java.nio.file.Path;
import java.util.ArrayList;
import java.util.Arrays;
import java.util.LinkedHashMap;
import java.util.List;
import java.util.Map;
import java.util.Random;
import java.util.Set;
import java.util.TreeSet;
import java.util.regex.Matcher;
import java.util.regex.Pattern;
import java.util.stream.Collectors;

/** LANGUAGE.md, by its rules' numbers, as far as the source, the compiled class and runs of it can tell. */
public final class LanguageTests {
  private static final Check CHECK = new Check();
  private static final Path SOURCE = Path.of("src/main/java/BoxStage.java");
  private static final Pattern HEAD =
      Pattern.compile("(?m)^( +)(?:(?:public|private|static|final) )*[\\w\\[\\]]+ (\\w+)\\([^)]*\\) \\{$");

  /** The part of the library's list that the class may come to use. */
  private static final Set<String> LIBRARY =
      Set.of(
          "System.arraycopy", "Arrays.fill", "Arrays.copyOf", "Arrays.copyOfRange", "Math.min", "Math.max", "Math.abs",
          "Math.floorDiv", "Math.floorMod", "Integer.bitCount", "Long.bitCount", "Integer.compare", "Long.compare");

  private static final int[] WILD = {
    Integer.MIN_VALUE, Integer.MIN_VALUE + 1, -0x40000000, -1000, -65, -33, -1, 8, 16, 24, 32, 33, 64, 96, 1000,
    0x40000000, Integer.MAX_VALUE - 1, Integer.MAX_VALUE
  };

  public static void main(String[] args) throws IOException, ReflectiveOperationException {
    String code = Files.readString(SOURCE).replaceAll("(?s)/\\*.*?\\*/", "").replaceAll("//.*", "");
    rules1And2Classes();
    rules3And5Fields();
    rules4And6Words(code);
    Map<String, String> methods = methodsIn(code);
    rules8And11Calls(methods);
    rule11Sizes(methods);
    rule7NoCallThrows();
    rule12CallsMakeNothing();
    CHECK.end();
  }

  private static List<Class<?>> classes() {
    List<Class<?>> all = new ArrayList<>();
    all.add(BoxStage.class);
    all.addAll(Arrays.asList(BoxStage.class.getDeclaredClasses()));
    return all;
  }

  private static void rules1And2Classes() {
    Set<String> face = new TreeSet<>();
    for (Method method : BoxStage.class.getDeclaredMethods()) {
      if (Modifier.isPublic(method.getModifiers())) {
        face.add(method.getName());
      }
    }
    for (Class<?> type : classes()) {
      int modifiers = type.getModifiers();
      if (type != BoxStage.class) {
        boolean isOpen = Modifier.isPublic(modifiers) || Modifier.isProtected(modifiers);
        CHECK.due(type + " is static and not open", Modifier.isStatic(modifiers) && !isOpen, true);
        CHECK.due(type + " has no classes inside", type.getDeclaredClasses().length, 0);
      }
      for (Method method : type.getDeclaredMethods()) {
        boolean isOfFace = type == BoxStage.class && Modifier.isPublic(method.getModifiers());
        CHECK.due(method + " bears the name of a public one", !isOfFace && face.contains(method.getName()), false);
      }
    }
  }

  private static void rules3And5Fields() {
    Set<Class<?>> constants = Set.of(int.class, long.class, boolean.class, char.class, String.class);
    Set<Class<?>> rows = Set.of(int[].class, long[].class, char[].class, byte[].class);
    for (Class<?> type : classes()) {
      for (Field field : type.getDeclaredFields()) {
        if (Modifier.isStatic(field.getModifiers())) {
          boolean canBe = constants.contains(field.getType()) || rows.contains(field.getType());
          CHECK.due(field + " is a constant", canBe && Modifier.isFinal(field.getModifiers()), true);
        } else {
          CHECK.due(field + " has a type that may be", isOwnOrNumber(field.getType()), true);
        }
      }
    }
  }

  private static boolean isOwnOrNumber(Class<?> type) {
    Class<?> element = type.isArray() ? type.getComponentType() : type;
    boolean isOwn = element.getName().startsWith("BoxStage$");
    boolean isRowOfNumbers = element.isArray() && element.getComponentType().isPrimitive();
    return element.isPrimitive() || isOwn || isRowOfNumbers;
  }

  private static void rules4And6Words(String code) {
    String[] forbidden = {
      "\\bthrows?\\b", "\\btry\\b", "\\bcatch\\b", "\\bsynchronized\\b", "\\bassert\\b", "->", "::", "\\bpackage\\b",
      "Exact\\b", "\\bprotected\\b", "\\bObject\\b", "\\bThread\\b", "\\bRandom\\b", "\\bdouble\\b", "\\bfloat\\b",
      "\"", "\\bstatic\\s*\\{", "\\bnew\\s+\\w+\\([^)]*\\)\\s*\\{", "\\bwhile\\s*\\(\\s*true\\b", "\\bfor\\s*\\(\\s*;;"
    };
    for (String word : forbidden) {
      CHECK.due("the source has " + word, Pattern.compile(word).matcher(code).find(), false);
    }
    String imports = code.lines().filter(line -> line.startsWith("import")).collect(Collectors.joining(" "));
    CHECK.due("the source imports Arrays alone", imports.equals("import java.util.Arrays;"), true);
    Matcher used = Pattern.compile("\\b(?:System|Arrays|Math|Integer|Long|Character|String)\\.\\w+").matcher(code);
    while (used.find()) {
      CHECK.due(used.group() + " stands in the list", LIBRARY.contains(used.group()), true);
    }
  }

  /** The bodies of the methods by name; those of one name stand together, as if each called what all call. */
  private static Map<String, String> methodsIn(String code) {
    Map<String, String> methods = new LinkedHashMap<>();
    Matcher head = HEAD.matcher(code);
    while (head.find()) {
      int end = code.indexOf("\n" + head.group(1) + "}", head.end());
      methods.merge(head.group(2), code.substring(head.end(), end), (one, other) -> one + "\n\n" + other);
    }
    return methods;
  }

  private static void rules8And11Calls(Map<String, String> methods) {
    Set<String> some = Set.of("place", "draw", "back", "cutOne", "addDifference");
    CHECK.due("the methods are found", methods.keySet().containsAll(some), true);
    for (String method : methods.keySet()) {
      boolean isShallow = depthOf(method, methods, 1) <= 8;
      CHECK.due("calls from " + method + " go at most eight deep, and in no ring", isShallow, true);
    }
  }

  private static int depthOf(String method, Map<String, String> methods, int depth) {
    // Beyond the bound it no longer matters how deep: a ring would have no end.
    int deepest = depth;
    Matcher call = Pattern.compile("\\b(\\w+)\\(").matcher(methods.get(method));
    while (depth <= 8 && call.find()) {
      if (methods.containsKey(call.group(1))) {
        deepest = Math.max(deepest, depthOf(call.group(1), methods, depth + 1));
      }
    }
    return deepest;
  }

  private static void rule11Sizes(Map<String, String> methods) {
    CHECK.due("at most twelve classes", classes().size() <= 12, true);
    for (Class<?> type : classes()) {
      int fields = 0;
      for (Field field : type.getDeclaredFields()) {
        fields += Modifier.isStatic(field.getModifiers()) ? 0 : 1;
      }
      CHECK.due(type + " has at most twenty fields", fields <= 20, true);
      for (Method method : type.getDeclaredMethods()) {
        CHECK.due(method + " has at most seven parameters", method.getParameterCount() <= 7, true);
      }
      for (Constructor<?> constructor : type.getDeclaredConstructors()) {
        CHECK.due(constructor + " has at most seven parameters", constructor.getParameterCount() <= 7, true);
      }
    }
    methods.forEach((name, body) -> CHECK.due(name + " is short", body.lines().count() <= 60, true));
  }

  /** "For any arguments in any state": what later calls than the 512th answer is free, but they don't throw. */
  private static void rule7NoCallThrows() throws ReflectiveOperationException {
    Random random = new Random(7);
    List<Method> face = new ArrayList<>();
    for (Method method : BoxStage.class.getDeclaredMethods()) {
      if (Modifier.isPublic(method.getModifiers())) {
        face.add(method);
      }
    }
    // The order in which reflection tells methods is free, the seed's runs should not be.
    face.sort((one, other) -> one.getName().compareTo(other.getName()));
    for (int run = 0; run < 30; run++) {
      BoxStage stage = new BoxStage();
      int wildness = 3 + 20 * (run % 3);
      for (Calls.Call call : Calls.read(run % 2 == 0 ? Scenes.FULL_OF_97 : Scenes.RING)) {
        CHECK.due("a wild run: " + call.text(), call.answerOn(stage), call.want());
      }
      for (int k = 0; k < 3000; k++) {
        Method method = face.get(random.nextInt(face.size()));
        Object[] values = new Object[method.getParameterCount()];
        for (int at = 0; at < values.length; at++) {
          boolean isWild = random.nextInt(wildness) == 0;
          values[at] = isWild ? WILD[random.nextInt(WILD.length)] : random.nextInt(at == 0 ? 24 : 8);
        }
        method.invoke(stage, values);
      }
      int drawn = stage.draw();
      CHECK.due("a wild run's last drawing", drawn == BoxStage.NONE || drawn == stage.count(0), true);
    }
  }

  /** All calls of a run share one room that is never cleared: what a call makes stays in it. */
  private static void rule12CallsMakeNothing() {
    aRun(new BoxStage());
    BoxStage stage = new BoxStage();
    ThreadMXBean threads = (ThreadMXBean) ManagementFactory.getThreadMXBean();
    long me = Thread.currentThread().getId();
    long before = threads.getThreadAllocatedBytes(me);
    aRun(stage);
    long made = threads.getThreadAllocatedBytes(me) - before;
    System.out.println(made + " bytes made in a run");
    CHECK.due("a run makes next to nothing", made < 256, true);
  }

  private static void aRun(BoxStage stage) {
    stage.place(0, 1, 0, 0, 1, 1, 2);
    stage.place(1, 0, 0, 1, 1, 2, 1);
    stage.place(2, 0, 1, 0, 2, 1, 1);
    for (int k = 0; k < 24; k++) {
      stage.paint(k % 3, k % 16, k % 8, 0, 0);
      stage.ink(k % 8, k % 8, k * 999);
      stage.slide(k % 3, k % 6, k % 3);
      stage.draw();
      stage.piece(k % 4, k % 8);
      stage.pixel(k % 3, k % 3, k % 4);
      stage.seen(k % 3);
      stage.changed(k % 5);
      stage.count(k % 7);
      stage.covers(k % 3, (k + 1) % 3);
      stage.tangled(k % 3);
      stage.under(k % 3, k % 3, k % 2);
      stage.box(k % 3, k % 10);
      stage.keep(k % 4);
      stage.drop();
      stage.lift(23);
      stage.back(k % 4);
    }
  }
}
