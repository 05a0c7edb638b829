import java.lang.reflect.Constructor;
import java.lang.reflect.Field;
import java.lang.reflect.Member;
import java.lang.reflect.Method;
import java.lang.reflect.Modifier;
import java.util.Arrays;
import java.util.Set;
import java.util.TreeSet;

/** The class's face is the document's, and nothing else of it is open. */
public final class FaceTests {
  private static final Check CHECK = new Check();

  private static final Set<String> FACE =
      Set.of(
          "int NONE", "BoxStage()", "int place(7)", "boolean lift(1)", "boolean paint(5)", "boolean ink(3)",
          "int slide(3)", "int drop(0)", "int draw(0)", "int piece(2)", "int pixel(3)", "int seen(1)",
          "int changed(1)", "int count(1)", "int covers(2)", "int tangled(1)", "int under(3)", "int box(2)",
          "boolean keep(1)", "boolean back(1)");

  public static void main(String[] args) {
    theFaceIsTheDocuments();
    CHECK.end();
  }

  private static void theFaceIsTheDocuments() {
    Class<?> stage = BoxStage.class;
    Set<String> open = new TreeSet<>();
    for (Field field : stage.getDeclaredFields()) {
      addIfOpen(open, field, field.getType() + " " + field.getName());
    }
    for (Method method : stage.getDeclaredMethods()) {
      boolean isIntAlone = Arrays.stream(method.getParameterTypes()).allMatch(type -> type == int.class);
      CHECK.due(method.getName() + " has int alone, or is private", isIntAlone || isPrivate(method), true);
      addIfOpen(open, method, method.getReturnType() + " " + method.getName() + "(" + method.getParameterCount() + ")");
    }
    for (Constructor<?> constructor : stage.getDeclaredConstructors()) {
      addIfOpen(open, constructor, constructor.getParameterCount() == 0 ? "BoxStage()" : constructor.toString());
    }
    System.out.println("the face: " + open);
    CHECK.due("the face is the document's", open.equals(FACE), true);
    CHECK.due("the class is public and final", stage.getModifiers() == (Modifier.PUBLIC | Modifier.FINAL), true);
    CHECK.due("NONE", BoxStage.NONE, -1);
  }

  private static void addIfOpen(Set<String> open, Member member, String text) {
    if (!isPrivate(member)) {
      open.add(Modifier.isPublic(member.getModifiers()) ? text : "not public: " + text);
    }
  }

  private static boolean isPrivate(Member member) {
    return Modifier.isPrivate(member.getModifiers());
  }
}
