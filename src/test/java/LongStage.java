import java.util.ArrayList;
import java.util.List;

/**
 * A BoxStage that can be asked for more than the calls that the document lets one object be used for: when
 * they are used up, a new one is made by the same calls, which must give the same answers once more.
 */
final class LongStage {
  private final Check check;
  private final List<Calls.Call> made = new ArrayList<>();
  private BoxStage stage = new BoxStage();
  private int calls = 0;

  LongStage(Check check) {
    this.check = check;
  }

  /** A call that may change the stage, and is made again on each new one. */
  int make(String name, int... values) throws ReflectiveOperationException {
    int answer = ask(name, values);
    made.add(new Calls.Call(name, values, answer));
    return answer;
  }

  /** A call that only asks. */
  int ask(String name, int... values) throws ReflectiveOperationException {
    if (calls == Calls.MOST) {
      makeAgain();
    }
    calls++;
    return (int) Calls.answer(stage, name, values);
  }

  private void makeAgain() throws ReflectiveOperationException {
    stage = new BoxStage();
    calls = made.size();
    for (Calls.Call call : made) {
      check.due("the same calls once more: " + call.text(), call.answerOn(stage), call.want());
    }
  }
}
