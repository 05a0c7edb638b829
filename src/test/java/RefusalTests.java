import java.util.ArrayList;
import java.util.List;

/**
 * "A call that is refused (NONE, false, 1 or more of place()) changes nothing." On each of three stages many
 * calls of a method that must be refused are made, every argument being too small, too large or far off in
 * turn; then the stage is asked for what it is and for what it drew, and so is a like one on which they were
 * not made. What would go beyond the calls that an object is made for is asked on further stages.
 */
public final class RefusalTests {
  private static final Check CHECK = new Check();
  private static final int ASKED_AT_ONCE = 200;

  /** Numbers that are wrong for most arguments; those with few bits wrap around where they are multiplied. */
  private static final int[] FAR = {
    Integer.MIN_VALUE, Integer.MIN_VALUE + 1, -0x40000000, -0x20000000, -0x2000000, -256, -32, -8,
    32, 64, 256, 0x2000000, 0x20000000, 0x40000000, Integer.MAX_VALUE - 1, Integer.MAX_VALUE
  };

  private record Stage(String name, List<Calls.Call> calls) {
    BoxStage make() throws ReflectiveOperationException {
      BoxStage made = new BoxStage();
      for (Calls.Call call : calls) {
        CHECK.due("on a stage " + name + ": " + call.text(), call.answerOn(made), call.want());
      }
      return made;
    }
  }

  /** What is asked of a stage behind the first calls, whose answers count, too. */
  private record Question(List<Calls.Call> first, List<Calls.Call> asked) {}

  public static void main(String[] args) throws ReflectiveOperationException {
    List<Question> questions = questions();
    for (Stage stage : stages()) {
      List<List<Calls.Call>> refused = refusedOn(stage.make());
      for (Question question : questions) {
        List<Long> due = answers(stage, List.of(), question);
        for (List<Calls.Call> calls : refused) {
          compare(stage, calls, question, due);
        }
      }
    }
    CHECK.end();
  }

  private static void compare(Stage stage, List<Calls.Call> refused, Question question, List<Long> due)
      throws ReflectiveOperationException {
    List<Long> got = answers(stage, refused, question);
    String after = "on a stage " + stage.name + ", after " + refused.get(0).name() + " was refused: ";
    for (int k = 0; k < question.first.size(); k++) {
      CHECK.due(after + question.first.get(k).text(), got.get(k), due.get(k));
    }
    for (int k = 0; k < question.asked.size(); k++) {
      int at = question.first.size() + k;
      CHECK.due(after + question.asked.get(k).text(), got.get(at), due.get(at));
    }
  }

  private static List<Long> answers(Stage stage, List<Calls.Call> refused, Question question)
      throws ReflectiveOperationException {
    BoxStage made = stage.make();
    for (Calls.Call call : refused) {
      CHECK.due("on a stage " + stage.name + ": " + call.text(), call.answerOn(made), call.want());
    }
    List<Long> answers = new ArrayList<>();
    for (Calls.Call call : question.first) {
      answers.add(call.answerOn(made));
    }
    for (Calls.Call call : question.asked) {
      answers.add(call.answerOn(made));
    }
    int calls = stage.calls.size() + refused.size() + answers.size();
    CHECK.due("a run is no longer than the document lets it be", calls <= Calls.MOST, true);
    return answers;
  }

  private static List<Stage> stages() {
    String drawn =
        Scenes.RING
            + """
            place(3, 20,0,0, 8,8,8) = 0; place(4, 0,20,0, 8,8,8) = 0; place(5, 0,0,20, 8,8,8) = 0
            paint(3, 5, 1,2,3) = 1; paint(4, 6, 4,5,6) = 1; paint(5, 7, 7,0,1) = 1
            ink(0, 1, 0x1B1B) = 1; ink(3, 7, 0x00FF) = 1; ink(7, 0, 0xC3C3) = 1; keep(1) = 1; draw() = 7
            ink(1, 1, 0xAAAA) = 1; paint(0, 9, 1,1,0) = 1; slide(5, 0, 2) = 2; keep(2) = 1; draw() = 7
            lift(1) = 1; ink(6, 6, 0xFFFF) = 1; place(23, 0,0,30, 2,2,2) = 0; lift(23) = 1
            """;
    String full =
        Scenes.FULL_OF_97
            + "lift(6) = 1; draw() = 96; place(6, 0,9,0, 1,1,10) = 0; paint(6, 8, 2,2,2) = 1; keep(0) = 1";
    return List.of(
        new Stage("that is new", List.of()),
        new Stage("with two drawings", Calls.read(drawn)),
        new Stage("that is full, and can't be drawn", Calls.read(full)));
  }

  /** The calls of each method that must be refused on the stage. */
  private static List<List<Calls.Call>> refusedOn(BoxStage made) {
    int n = made.box(3, 0) == BoxStage.NONE ? 0 : 3;
    int[] i = {-32, 31};
    int[] j = {-64, 63};
    int[] box = {0, 23};
    int[] sprite = {0, 7};
    int[] place = {0, 3};
    List<List<Calls.Call>> all = new ArrayList<>();
    all.add(placesRefused(made, n));
    all.add(withGone(made, wrong("lift", 0, new int[] {n}, box)));
    all.add(withGone(made, wrong("paint", 0, new int[] {n, 1, 1, 1, 1}, box, new int[] {0, 15}, sprite, sprite, sprite)));
    all.add(wrong("ink", 0, new int[] {1, 2, 0x2D72}, sprite, sprite));
    all.add(withGone(made, wrong("slide", -1, new int[] {n, 0, 1}, box, new int[] {0, 5}, new int[] {0, 32})));
    all.add(wrong("piece", -1, new int[] {0, 1}, new int[] {0, made.count(0) - 1}, sprite));
    all.add(wrong("pixel", -1, new int[] {0, 0, 3}, i, j, place));
    all.add(wrong("seen", 0, new int[] {n}, box));
    all.add(wrong("changed", -1, new int[] {0}, new int[] {0, 4}));
    all.add(wrong("count", -1, new int[] {0}, new int[] {0, 6}));
    all.add(withGone(made, wrong("covers", -1, new int[] {n, 0}, box, box)));
    all.add(withGone(made, wrong("tangled", -1, new int[] {n}, box)));
    all.add(wrong("under", -1, new int[] {0, 0, 0}, i, j, box));
    all.add(withGone(made, wrong("box", -1, new int[] {n, 0}, box, new int[] {0, 9})));
    all.add(wrong("keep", 0, new int[] {0}, place));
    all.add(backsRefused(made));
    if (made.count(5) == 24) {
      all.add(Calls.read("draw() = -1"));
    }
    return all;
  }

  /** The call with each of its arguments, one after the other, outside its limits. */
  private static List<Calls.Call> wrong(String name, int refusal, int[] good, int[]... limits) {
    List<Calls.Call> calls = new ArrayList<>();
    for (int at = 0; at < limits.length; at++) {
      int least = limits[at][0];
      int most = limits[at][1];
      calls.add(with(name, refusal, good, at, least - 1));
      calls.add(with(name, refusal, good, at, most + 1));
      for (int far : FAR) {
        if (far < least || far > most) {
          calls.add(with(name, refusal, good, at, far));
        }
      }
    }
    return calls;
  }

  private static Calls.Call with(String name, int refusal, int[] good, int at, int value) {
    int[] values = good.clone();
    values[at] = value;
    return new Calls.Call(name, values, refusal);
  }

  /** The calls, and the first of them once more for each box that is not there. */
  private static List<Calls.Call> withGone(BoxStage made, List<Calls.Call> calls) {
    // Of the first call the first argument alone is wrong.
    Calls.Call first = calls.get(0);
    for (int n = 0; n < 24; n++) {
      if (made.box(n, 0) == BoxStage.NONE) {
        calls.add(with(first.name(), (int) first.want(), first.values(), 0, n));
      }
    }
    return calls;
  }

  private static List<Calls.Call> placesRefused(BoxStage made, int n) {
    int[] good = {n, 20, 0, 0, 8, 8, 8};
    int[][] limits = {{0, 23}, {0, 24}, {0, 24}, {0, 24}, {1, 12}, {1, 32}, {1, 32}};
    List<Calls.Call> calls = wrong("place", 1, good, limits);
    for (int other = 0; other < 24; other++) {
      if (other != n && made.box(other, 0) != BoxStage.NONE) {
        calls.add(new Calls.Call("place", placeOf(made, n, other), 2 + 8 * other));
      }
    }
    return calls;
  }

  /** The arguments that would place box n where the other one is. */
  private static int[] placeOf(BoxStage made, int n, int other) {
    int[] values = {n, 0, 0, 0, 0, 0, 0};
    for (int axis = 0; axis < 3; axis++) {
      values[1 + axis] = made.box(other, 2 * axis);
      values[4 + axis] = made.box(other, 2 * axis + 1) - made.box(other, 2 * axis);
    }
    return values;
  }

  private static List<Calls.Call> backsRefused(BoxStage made) {
    List<Calls.Call> calls = wrong("back", 0, new int[] {0}, new int[] {0, 3});
    if (made.count(6) == 0) {
      calls.addAll(Calls.read(Calls.each(0, 3, "back(N) = 0")));
    } else if (made.count(5) == 24) {
      calls.addAll(Calls.read(Calls.each(1, 3, "back(N) = 0")));
    } else {
      calls.addAll(Calls.read("back(0) = 0; back(3) = 0"));
    }
    return calls;
  }

  private static List<Question> questions() {
    int[] box = {0, 23};
    int[] i = {-32, 31};
    int[] j = {-64, 63};
    List<Calls.Call> boxes = all("box", box, new int[] {0, 9});
    List<Calls.Call> drawing = all("count", new int[] {0, 6});
    drawing.addAll(all("changed", new int[] {0, 4}));
    drawing.addAll(all("seen", box));
    List<Question> questions = new ArrayList<>();
    ask(questions, "", boxes);
    ask(questions, "", drawing);
    ask(questions, "", all("tangled", box));
    ask(questions, "", all("covers", box, box));
    ask(questions, "", all("under", i, j, new int[] {0, 2}));
    ask(questions, "", all("piece", new int[] {0, 96}, new int[] {0, 7}));
    ask(questions, "", all("pixel", i, j, new int[] {0, 3}));
    ask(questions, "draw() = 0", drawing);
    ask(questions, "draw() = 0", all("pixel", i, j, new int[] {2, 2}));
    for (int place = 0; place < 4; place++) {
      ask(questions, "back(N) = 0".replace("N", "" + place), boxes);
      ask(questions, "back(N) = 0; draw() = 0".replace("N", "" + place), drawing);
    }
    for (int sprite = 0; sprite < 8; sprite++) {
      String shown = "place(7, 12,12,0, 8,8,8) = 0; paint(7, 1, N,N,N) = 0; draw() = 0".replace("N", "" + sprite);
      ask(questions, shown, all("pixel", new int[] {-8, 7}, new int[] {8, 39}, new int[] {2, 2}));
    }
    return questions;
  }

  /** The calls, as many at once as a run has room for, each time behind the first ones; no answer is due. */
  private static void ask(List<Question> questions, String first, List<Calls.Call> calls) {
    for (int from = 0; from < calls.size(); from += ASKED_AT_ONCE) {
      int to = Math.min(calls.size(), from + ASKED_AT_ONCE);
      questions.add(new Question(Calls.read(first), calls.subList(from, to)));
    }
  }

  /** The call with all arguments within the limits; no answer is due. */
  private static List<Calls.Call> all(String name, int[]... limits) {
    List<int[]> rows = new ArrayList<>();
    rows.add(new int[limits.length]);
    for (int at = 0; at < limits.length; at++) {
      List<int[]> longer = new ArrayList<>();
      for (int[] row : rows) {
        for (int value = limits[at][0]; value <= limits[at][1]; value++) {
          int[] next = row.clone();
          next[at] = value;
          longer.add(next);
        }
      }
      rows = longer;
    }
    List<Calls.Call> calls = new ArrayList<>();
    rows.forEach(row -> calls.add(new Calls.Call(name, row, 0)));
    return calls;
  }
}
