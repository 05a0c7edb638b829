import java.lang.reflect.Method;
import java.util.Arrays;

/** Calls by name, on a BoxStage or a SlowStage alike. */
final class Calls {
  private Calls() {}

  /** The answer of a call whose arguments are all int; a boolean counts 1 or 0. */
  static long answer(Object on, String name, int... values) throws ReflectiveOperationException {
    Class<?>[] types = new Class<?>[values.length];
    Arrays.fill(types, int.class);
    Method method = on.getClass().getDeclaredMethod(name, types);
    Object answer = method.invoke(on, Arrays.stream(values).boxed().toArray());
    return answer instanceof Boolean is ? (is ? 1 : 0) : (Integer) answer;
  }
}
