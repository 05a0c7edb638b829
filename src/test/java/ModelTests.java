import java.util.Arrays;
import java.util.Random;
import java.util.StringJoiner;

/**
 * Runs of up to 512 calls, drawn from a fixed seed, on a BoxStage and on a SlowStage: all answers must
 * be alike. Most arguments can be, some can't.
 */
public final class ModelTests {
  private static final int RUNS = 150;
  private static final int CALLS = 512;
  private static final int[] FAR = {Integer.MIN_VALUE, Integer.MIN_VALUE + 1, -1000, 1000, Integer.MAX_VALUE};

  private static final Check CHECK = new Check();
  private static int drawings = 0;
  private static int drawingsWithCuts = 0;
  private static int drawingsRefused = 0;

  private final Random random;
  private final BoxStage stage = new BoxStage();
  private final SlowStage slow = new SlowStage();
  private final StringBuilder told = new StringBuilder();
  private final Arrange arrange;
  /** The boxes lie in a corner of this size: the smaller it is, the more they are in one another's way. */
  private final int corner;
  private int calls = 0;
  private boolean isWrong = false;

  private ModelTests(int seed) {
    random = new Random(seed);
    arrange = Arrange.values()[seed % Arrange.values().length];
    corner = arrange == Arrange.WEAVE ? 16 + random.nextInt(12) : 4 + random.nextInt(random.nextInt(4) == 0 ? 29 : 9);
  }

  public static void main(String[] args) throws ReflectiveOperationException {
    for (int seed = 0; seed < RUNS; seed++) {
      new ModelTests(seed).run();
    }
    System.out.println(drawings + " drawings, " + drawingsWithCuts + " with cuts, " + drawingsRefused + " refused");
    CHECK.due("there are drawings with cuts", drawingsWithCuts > RUNS / 10, true);
    CHECK.due("there are drawings that are refused", drawingsRefused > 0, true);
    CHECK.end();
  }

  private void run() throws ReflectiveOperationException {
    int tries = 30 + random.nextInt(90);
    for (int k = 0; k < tries; k++) {
      placeOne();
    }
    if (random.nextBoolean()) {
      for (int row = 0; row < 8; row++) {
        call("ink", random.nextInt(2), row, random.nextInt());
      }
    }
    String[] names = {
      "place", "lift", "paint", "ink", "slide", "slide", "drop", "draw", "draw", "piece", "piece", "piece", "pixel",
      "pixel", "pixel", "pixel", "seen", "changed", "changed", "count", "count", "count", "covers", "covers",
      "tangled", "under", "under", "box", "box", "keep", "back"
    };
    call("draw");
    for (int k = 0; k < 30; k++) {
      call("piece", arguments("piece"));
    }
    while (calls < CALLS && !isWrong) {
      String name = names[random.nextInt(names.length)];
      if (name.equals("place") && random.nextInt(4) > 0) {
        placeOne();
      } else if (name.equals("draw") || name.equals("drop") ? random.nextInt(8) == 0 : true) {
        call(name, arguments(name));
      }
    }
  }

  /** What kinds of boxes a run has: beams are what becomes tangled, those from wall to wall the most. */
  private enum Arrange {
    BEAMS,
    WEAVE,
    ANY
  }

  private void placeOne() throws ReflectiveOperationException {
    int[] from = new int[3];
    int[] size = new int[3];
    int along = random.nextInt(3);
    for (int axis = 0; axis < 3; axis++) {
      boolean isLong = axis == along;
      if (arrange == Arrange.ANY) {
        size[axis] = 1 + random.nextInt(corner / 2);
      } else {
        size[axis] = isLong ? corner - random.nextInt(1 + corner / 2) : 1;
      }
      from[axis] = random.nextInt(corner - size[axis] + 1);
      if (arrange == Arrange.WEAVE) {
        size[axis] = isLong ? corner : 1;
        from[axis] = isLong ? 0 : nearMiddle();
      }
    }
    int n = random.nextInt(24);
    while (n < 23 && slow.box(n, 0) != SlowStage.NONE) {
      n++;
    }
    call("place", n, from[0], from[1], from[2], size[0], size[1], size[2]);
    if (random.nextInt(3) == 0) {
      call("paint", n, random.nextInt(16), random.nextInt(3), random.nextInt(3), random.nextInt(3));
    }
  }

  private int nearMiddle() {
    int spread = 1 + random.nextInt(corner / 2);
    return Math.min(corner - 1, Math.max(0, corner / 2 - spread + random.nextInt(2 * spread)));
  }

  private int[] arguments(String name) {
    int[][] bounds = bounds(name);
    int[] values = new int[bounds.length];
    for (int k = 0; k < values.length; k++) {
      int least = bounds[k][0];
      int most = bounds[k][1];
      int luck = random.nextInt(40);
      if (luck == 0) {
        values[k] = FAR[random.nextInt(FAR.length)];
      } else if (luck == 1) {
        values[k] = random.nextBoolean() ? least - 1 : most + 1;
      } else {
        values[k] = least + random.nextInt(most - least + 1);
      }
    }
    return values;
  }

  private int[][] bounds(String name) {
    int[] box = {0, 23};
    int[] i = {Math.max(-32, -corner), Math.min(31, corner)};
    int[] j = {Math.max(-64, -2 * corner), Math.min(63, 2 * corner)};
    int[] place = {0, 31};
    int[] size = {1, 8};
    int[] sprite = {0, 7};
    switch (name) {
      case "place":
        return new int[][] {box, place, place, place, size, size, size};
      case "paint":
        return new int[][] {box, {0, 15}, sprite, sprite, sprite};
      case "ink":
        return new int[][] {sprite, sprite, {0, 0xFFFF}};
      case "slide":
        return new int[][] {box, {0, 5}, {0, 32}};
      case "piece":
        return new int[][] {{0, 95}, {0, 7}};
      case "pixel":
        return new int[][] {i, j, {0, 3}};
      case "under":
        return new int[][] {i, j, {0, 3}};
      case "changed":
        return new int[][] {{0, 4}};
      case "count":
        return new int[][] {{0, 6}};
      case "covers":
        return new int[][] {box, box};
      case "box":
        return new int[][] {box, {0, 9}};
      case "keep":
      case "back":
        return new int[][] {{0, 3}};
      case "draw":
      case "drop":
        return new int[0][];
      default:
        return new int[][] {box};
    }
  }

  private void call(String name, int... values) throws ReflectiveOperationException {
    if (calls >= CALLS || isWrong) {
      return;
    }
    calls++;
    long got = Calls.answer(stage, name, values);
    long want = Calls.answer(slow, name, values);
    StringJoiner text = new StringJoiner(", ", name + "(", ")");
    Arrays.stream(values).forEach(value -> text.add(Integer.toString(value)));
    told.append(text).append('\n');
    if (got != want) {
      isWrong = true;
      System.out.print(told);
    }
    CHECK.due(text.toString(), got, want);
    if (name.equals("draw")) {
      drawings++;
      drawingsRefused += want == SlowStage.NONE ? 1 : 0;
      drawingsWithCuts += want != SlowStage.NONE && slow.count(1) > 0 ? 1 : 0;
    }
  }
}
