import com.sun.management.ThreadMXBean;
import java.io.IOException;
import java.lang.management.ManagementFactory;
import java.lang.reflect.Constructor;
import java.lang.reflect.Field;
import java.lang.reflect.Member;
import java.lang.reflect.Method;
import java.lang.reflect.Modifier;
import java.nio.file.Files;
import java.nio.file.Path;
import java.util.Arrays;
import java.util.Set;
import java.util.TreeSet;
import java.util.regex.Pattern;
import java.util.stream.Collectors;

/** The class's face, the words that LANGUAGE.md leaves out, and what calls take of the one room. */
public final class FaceTests {
  private static final Check CHECK = new Check();
  private static final Path SOURCE = Path.of("src/main/java/BoxStage.java");

  private static final Set<String> FACE =
      Set.of(
          "int NONE", "BoxStage()", "int place(7)", "boolean lift(1)", "boolean paint(5)", "boolean ink(3)",
          "int slide(3)", "int drop(0)", "int draw(0)", "int piece(2)", "int pixel(3)", "int seen(1)",
          "int changed(1)", "int count(1)", "int covers(2)", "int tangled(1)", "int under(3)", "int box(2)",
          "boolean keep(1)", "boolean back(1)");

  public static void main(String[] args) throws IOException {
    theFaceIsTheDocuments();
    theSourceHasNoForbiddenWord();
    callsMakeNothing();
    CHECK.end();
  }

  private static void theFaceIsTheDocuments() {
    Class<?> stage = BoxStage.class;
    Set<String> open = new TreeSet<>();
    for (Field field : stage.getDeclaredFields()) {
      addIfOpen(open, field, field.getType() + " " + field.getName());
    }
    for (Method method : stage.getDeclaredMethods()) {
      boolean isIntAlone = Arrays.stream(method.getParameterTypes()).allMatch(type -> type == int.class);
      CHECK.due(method.getName() + " has int alone, or is private", isIntAlone || isPrivate(method), true);
      CHECK.due(method.getName() + " has at most seven parameters", method.getParameterCount() <= 7, true);
      addIfOpen(open, method, method.getReturnType() + " " + method.getName() + "(" + method.getParameterCount() + ")");
    }
    for (Constructor<?> constructor : stage.getDeclaredConstructors()) {
      addIfOpen(open, constructor, constructor.getParameterCount() == 0 ? "BoxStage()" : constructor.toString());
    }
    System.out.println("the face: " + open);
    CHECK.due("the face is the document's", open.equals(FACE), true);
    CHECK.due("the class is public and final", stage.getModifiers() == (Modifier.PUBLIC | Modifier.FINAL), true);
    CHECK.due("NONE", BoxStage.NONE, -1);
  }

  private static void addIfOpen(Set<String> open, Member member, String text) {
    if (!isPrivate(member)) {
      open.add(Modifier.isPublic(member.getModifiers()) ? text : "not public: " + text);
    }
  }

  private static boolean isPrivate(Member member) {
    return Modifier.isPrivate(member.getModifiers());
  }

  private static void theSourceHasNoForbiddenWord() throws IOException {
    String code = Files.readString(SOURCE).replaceAll("(?s)/\\*.*?\\*/", "").replaceAll("//.*", "");
    String[] forbidden = {
      "\\bthrows?\\b", "\\btry\\b", "\\bcatch\\b", "\\bsynchronized\\b", "\\bassert\\b", "->", "::", "\\bpackage\\b",
      "Exact\\b", "\\bprotected\\b", "\\bObject\\b", "\\bSystem\\.(?!arraycopy\\b)", "\\bThread\\b", "\\bRandom\\b"
    };
    for (String word : forbidden) {
      CHECK.due("the source has " + word, Pattern.compile(word).matcher(code).find(), false);
    }
    String imports =
        code.lines().filter(line -> line.startsWith("import")).collect(Collectors.joining(" "));
    CHECK.due("the source imports Arrays alone", imports.equals("import java.util.Arrays;"), true);
  }

  /** All calls of a run share one room that is never cleared: what a call makes stays in it. */
  private static void callsMakeNothing() {
    aRun(new BoxStage());
    BoxStage stage = new BoxStage();
    ThreadMXBean threads = (ThreadMXBean) ManagementFactory.getThreadMXBean();
    long me = Thread.currentThread().getId();
    long before = threads.getThreadAllocatedBytes(me);
    aRun(stage);
    long made = threads.getThreadAllocatedBytes(me) - before;
    System.out.println(made + " bytes made in a run");
    CHECK.due("a run makes next to nothing", made < 256, true);
  }

  private static void aRun(BoxStage stage) {
    stage.place(0, 1, 0, 0, 1, 1, 2);
    stage.place(1, 0, 0, 1, 1, 2, 1);
    stage.place(2, 0, 1, 0, 2, 1, 1);
    for (int k = 0; k < 24; k++) {
      stage.paint(k % 3, k % 16, k % 8, 0, 0);
      stage.ink(k % 8, k % 8, k * 999);
      stage.slide(k % 3, k % 6, k % 3);
      stage.draw();
      stage.piece(k % 4, k % 8);
      stage.pixel(k % 3, k % 3, k % 4);
      stage.seen(k % 3);
      stage.changed(k % 5);
      stage.count(k % 7);
      stage.covers(k % 3, (k + 1) % 3);
      stage.tangled(k % 3);
      stage.under(k % 3, k % 3, k % 2);
      stage.box(k % 3, k % 10);
      stage.keep(k % 4);
      stage.drop();
      stage.lift(23);
      stage.back(k % 4);
    }
  }
}
