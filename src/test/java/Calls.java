import java.lang.reflect.Method;
import java.util.ArrayList;
import java.util.Arrays;
import java.util.HashMap;
import java.util.List;
import java.util.Map;

/**
 * Calls by name, on a BoxStage or a SlowStage alike. In a text, calls stand with the answers that are due
 * ("lift(0) = 1": a boolean counts 1 or 0), one to a line or several with semicolons between them; MIN and
 * MAX are the least and the greatest int; what follows # is a remark.
 */
final class Calls {
  /** What the document lets one object be used for. */
  static final int MOST = 512;

  private static final Map<String, Method> METHODS = new HashMap<>();

  /** A call and the answer that is due. */
  record Call(String name, int[] values, long want) {
    String text() {
      return name + Arrays.toString(values).replace('[', '(').replace(']', ')');
    }

    long answerOn(Object stage) throws ReflectiveOperationException {
      return answer(stage, name, values);
    }
  }

  private Calls() {}

  /** The answer of a call whose arguments are all int; a boolean counts 1 or 0. */
  static long answer(Object on, String name, int... values) throws ReflectiveOperationException {
    Method method = METHODS.get(on.getClass().getName() + name);
    if (method == null) {
      Class<?>[] types = new Class<?>[values.length];
      Arrays.fill(types, int.class);
      method = on.getClass().getDeclaredMethod(name, types);
      METHODS.put(on.getClass().getName() + name, method);
    }
    Object answer = method.invoke(on, Arrays.stream(values).boxed().toArray());
    return answer instanceof Boolean is ? (is ? 1 : 0) : (Integer) answer;
  }

  /** Makes the calls on a new BoxStage and on a new SlowStage, so that the two never drift apart. */
  static void run(Check check, String name, String text) throws ReflectiveOperationException {
    BoxStage stage = new BoxStage();
    SlowStage slow = new SlowStage();
    List<Call> calls = read(text);
    check.due("run " + name + ": is no longer than the document lets it be", calls.size() <= MOST, true);
    for (Call call : calls) {
      check.due("run " + name + ": " + call.text(), call.answerOn(stage), call.want);
      check.due("slow run " + name + ": " + call.text(), call.answerOn(slow), call.want);
    }
  }

  /** The same text for all numbers from the first to the last, which stand where it has an N. */
  static String each(int first, int last, String text) {
    StringBuilder all = new StringBuilder();
    for (int n = first; n <= last; n++) {
      all.append(text.replaceAll("\\bN\\b", Integer.toString(n))).append('\n');
    }
    return all.toString();
  }

  static List<Call> read(String text) {
    List<Call> calls = new ArrayList<>();
    for (String one : text.replaceAll("#.*", "").split("[;\n]")) {
      if (!one.isBlank()) {
        int open = one.indexOf('(');
        int close = one.indexOf(')');
        int[] values = valuesOf(one.substring(open + 1, close));
        long want = Long.parseLong(one.substring(one.indexOf('=') + 1).trim());
        calls.add(new Call(one.substring(0, open).trim(), values, want));
      }
    }
    return calls;
  }

  private static int[] valuesOf(String list) {
    return list.isBlank() ? new int[0] : Arrays.stream(list.split(",")).mapToInt(Calls::valueOf).toArray();
  }

  private static int valueOf(String word) {
    switch (word.trim()) {
      case "MIN":
        return Integer.MIN_VALUE;
      case "MAX":
        return Integer.MAX_VALUE;
      default:
        return Long.decode(word.trim()).intValue();
    }
  }
}
