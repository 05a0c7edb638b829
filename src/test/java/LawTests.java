import java.util.ArrayList;
import java.util.Arrays;
import java.util.List;
import java.util.Random;

/**
 * What the document's first line and its Terms say of every stage, looked at on random ones, from what the
 * stage itself tells: no answer of another program is needed for it.
 */
public final class LawTests {
  private static final int STAGES = 36;
  private static final int TRIES = 120;
  private static final Check CHECK = new Check();
  private static int stagesWithCuts = 0;

  private final String name;
  private final Random random;
  private final boolean hasHoles;
  /** The boxes are beams in a corner of this size: the smaller it is, and the thinner they are, the more rings. */
  private final int corner;
  private final int thickest;
  private final LongStage stage = new LongStage(CHECK);

  private LawTests(int seed) {
    random = new Random(seed);
    name = "stage " + seed + ": ";
    hasHoles = seed % 2 == 0;
    corner = seed % 3 == 0 ? 32 : 6 + random.nextInt(10);
    thickest = 1 + seed % 2;
  }

  public static void main(String[] args) throws ReflectiveOperationException {
    for (int seed = 0; seed < STAGES; seed++) {
      new LawTests(seed).lookAtAll();
    }
    System.out.println(stagesWithCuts + " of " + STAGES + " stages have cuts");
    CHECK.due("there are stages with cuts", stagesWithCuts > STAGES / 4, true);
    CHECK.due("there are stages without cuts", stagesWithCuts < STAGES, true);
    CHECK.end();
  }

  private void lookAtAll() throws ReflectiveOperationException {
    build();
    int[][] boxes = boxes();
    boxesShareNoRoom(boxes);
    if (stage.make("draw") == BoxStage.NONE) {
      return;
    }
    int[][] pieces = pieces();
    stagesWithCuts += pieces.length > stage.ask("count", 5) ? 1 : 0;
    piecesMakeUpTheirBoxes(pieces, boxes);
    theOrderIsRightAtEachPixel(pieces);
    onlyRingsAreCut(pieces);
    oneOfTwoIsNearerAtAllPixels();
    thePictureAddsUp();
    whatHasFallenRests();
    boxesShareNoRoom(boxes());
  }

  private void build() throws ReflectiveOperationException {
    for (int k = 0; k < TRIES; k++) {
      placeOne();
    }
    for (int n = 0; n < 24; n++) {
      stage.make("slide", n, random.nextInt(6), random.nextInt(3));
      stage.make("paint", n, random.nextInt(16), random.nextInt(8), random.nextInt(8), random.nextInt(8));
    }
    for (int k = 0; k < 40; k++) {
      // With the lower bit of each pair set, no ink is a hole.
      int word = random.nextInt();
      stage.make("ink", random.nextInt(8), random.nextInt(8), hasHoles ? word : word | 0x5555);
    }
  }

  private void placeOne() throws ReflectiveOperationException {
    int along = random.nextInt(3);
    int[] from = new int[3];
    int[] size = new int[3];
    for (int axis = 0; axis < 3; axis++) {
      size[axis] = axis == along ? corner - random.nextInt(1 + corner / 2) : 1 + random.nextInt(thickest);
      from[axis] = random.nextInt(corner - size[axis] + 1);
    }
    stage.make("place", random.nextInt(24), from[0], from[1], from[2], size[0], size[1], size[2]);
  }

  /** X0, X1, Y0, Y1, Z0, Z1 of each box; null for one that is not there. */
  private int[][] boxes() throws ReflectiveOperationException {
    int[][] boxes = new int[24][];
    for (int n = 0; n < 24; n++) {
      if (stage.ask("box", n, 0) != BoxStage.NONE) {
        boxes[n] = new int[6];
        for (int what = 0; what < 6; what++) {
          boxes[n][what] = stage.ask("box", n, what);
        }
      }
    }
    return boxes;
  }

  /** What piece() tells of each piece, in the order. */
  private int[][] pieces() throws ReflectiveOperationException {
    int[][] pieces = new int[stage.ask("count", 0)][8];
    for (int k = 0; k < pieces.length; k++) {
      for (int what = 0; what < 8; what++) {
        pieces[k][what] = stage.ask("piece", k, what);
      }
    }
    return pieces;
  }

  private static int[] endsOf(int[] piece) {
    return Arrays.copyOfRange(piece, 2, 8);
  }

  private static int sharedRoom(int[] p, int[] q) {
    int room = 1;
    for (int at = 0; at < 6; at += 2) {
      room *= Math.max(0, Math.min(p[at + 1], q[at + 1]) - Math.max(p[at], q[at]));
    }
    return room;
  }

  private void boxesShareNoRoom(int[][] boxes) {
    int[] room = {0, 32, 0, 32, 0, 32};
    for (int p = 0; p < 24; p++) {
      if (boxes[p] != null) {
        int own = sharedRoom(boxes[p], boxes[p]);
        CHECK.due(name + "box " + p + " has room", own > 0, true);
        CHECK.due(name + "box " + p + " lies in the room", sharedRoom(boxes[p], room), own);
        for (int q = 0; q < p; q++) {
          if (boxes[q] != null) {
            CHECK.due(name + "boxes " + p + " and " + q + " share", sharedRoom(boxes[p], boxes[q]), 0);
          }
        }
      }
    }
  }

  /** "PIECES are boxes, too, which lie in BOXES; a BOX is its first PIECE, with its number." */
  private void piecesMakeUpTheirBoxes(int[][] pieces, int[][] boxes) {
    int[] roomOfPieces = new int[24];
    int[] firstPieces = new int[24];
    for (int k = 0; k < pieces.length; k++) {
      int owner = pieces[k][0];
      int[] ends = endsOf(pieces[k]);
      int room = sharedRoom(ends, ends);
      CHECK.due(name + "piece " + k + " has room", room > 0, true);
      CHECK.due(name + "piece " + k + " lies in its box", sharedRoom(ends, boxes[owner]), room);
      roomOfPieces[owner] += room;
      firstPieces[owner] += pieces[k][1] == owner ? 1 : 0;
      CHECK.due(name + "the number of piece " + k, pieces[k][1] == owner || pieces[k][1] >= 24, true);
      for (int m = 0; m < k; m++) {
        CHECK.due(name + "pieces " + k + " and " + m + " share", sharedRoom(ends, endsOf(pieces[m])), 0);
        CHECK.due(name + "pieces " + k + " and " + m + " have one number", pieces[k][1] == pieces[m][1], false);
      }
    }
    for (int n = 0; n < 24; n++) {
      int room = boxes[n] == null ? 0 : sharedRoom(boxes[n], boxes[n]);
      CHECK.due(name + "all pieces of box " + n, roomOfPieces[n], room);
      CHECK.due(name + "first pieces of box " + n, firstPieces[n], boxes[n] == null ? 0 : 1);
    }
  }

  /** "Drawn one over the other in an order that is right at each pixel": the nearer the later. */
  private void theOrderIsRightAtEachPixel(int[][] pieces) {
    for (int i = -32; i < 32; i++) {
      for (int j = -64; j < 64; j++) {
        int latest = BoxStage.NONE;
        for (int[] piece : pieces) {
          int exit = exitInQuarters(endsOf(piece), i, j);
          if (exit != BoxStage.NONE) {
            CHECK.due(name + "the order at pixel " + i + ", " + j, exit > latest, true);
            latest = exit;
          }
        }
      }
    }
  }

  private static int exitInQuarters(int[] ends, int i, int j) {
    int[] shift = {2 * j + 2 * i + 1, 2 * j - 2 * i - 1, 0};
    int enter = Integer.MIN_VALUE;
    int exit = Integer.MAX_VALUE;
    for (int axis = 0; axis < 3; axis++) {
      enter = Math.max(enter, 4 * ends[2 * axis] - shift[axis]);
      exit = Math.min(exit, 4 * ends[2 * axis + 1] - shift[axis]);
    }
    return enter < exit ? exit : BoxStage.NONE;
  }

  /** "Boxes that are cut only where they cover one another in a ring." */
  private void onlyRingsAreCut(int[][] pieces) throws ReflectiveOperationException {
    boolean isAnyTangled = false;
    for (int n = 0; n < 24; n++) {
      isAnyTangled |= stage.ask("tangled", n) > 0;
    }
    for (int[] piece : pieces) {
      if (piece[1] >= 24) {
        CHECK.due(name + "box " + piece[0] + " is cut and in a ring", stage.ask("tangled", piece[0]) > 2, true);
      }
    }
    CHECK.due(name + "there are cuts, as there are rings", stage.ask("count", 1) > 0, isAnyTangled);
    CHECK.due(name + "each cut makes one piece more", stage.ask("count", 1), pieces.length - stage.ask("count", 5));
  }

  /** "Of two that share no room one is NEARER at all such PIXELS", counted by what under() tells. */
  private void oneOfTwoIsNearerAtAllPixels() throws ReflectiveOperationException {
    int[][] nearer = new int[24][24];
    for (int i = -32; i < 32; i++) {
      for (int j = -64; j < 64; j++) {
        List<Integer> hit = hitAt(i, j);
        for (int k = 0; k < hit.size(); k++) {
          for (int m = k + 1; m < hit.size(); m++) {
            nearer[hit.get(k)][hit.get(m)]++;
          }
        }
        int shown = stage.ask("pixel", i, j, 0);
        if (!hasHoles) {
          CHECK.due(name + "pixel " + i + ", " + j, shown, hit.isEmpty() ? BoxStage.NONE : hit.get(0));
        }
        CHECK.due(name + "what shows is hit", shown == BoxStage.NONE || hit.contains(shown), true);
      }
    }
    for (int a = 0; a < 24; a++) {
      for (int b = 0; b < 24; b++) {
        CHECK.due(name + "each nearer than the other: " + a + ", " + b, nearer[a][b] > 0 && nearer[b][a] > 0, false);
        boolean areTwo = a != b && stage.ask("box", a, 0) != BoxStage.NONE && stage.ask("box", b, 0) != BoxStage.NONE;
        CHECK.due(name + "covers " + a + ", " + b, stage.ask("covers", a, b), areTwo ? nearer[a][b] : BoxStage.NONE);
      }
    }
  }

  private List<Integer> hitAt(int i, int j) throws ReflectiveOperationException {
    List<Integer> hit = new ArrayList<>();
    for (int k = 0; k < 24; k++) {
      int box = stage.ask("under", i, j, k);
      if (box == BoxStage.NONE) {
        break;
      }
      hit.add(box);
    }
    return hit;
  }

  /** The pixels one by one make up what seen(), changed() and count() tell of the first drawing. */
  private void thePictureAddsUp() throws ReflectiveOperationException {
    int[] pixelsOfBox = new int[24];
    int pixels = 0;
    int laid = 0;
    for (int i = -32; i < 32; i++) {
      for (int j = -64; j < 64; j++) {
        laid += stage.ask("pixel", i, j, 3);
        int box = stage.ask("pixel", i, j, 0);
        if (box != BoxStage.NONE) {
          pixels++;
          pixelsOfBox[box]++;
          CHECK.due(name + "its colour", stage.ask("pixel", i, j, 2) % 16, stage.ask("box", box, 6));
          CHECK.due(name + "its ink is no hole", stage.ask("pixel", i, j, 2) >= 16, true);
        }
      }
    }
    for (int n = 0; n < 24; n++) {
      CHECK.due(name + "seen " + n, stage.ask("seen", n), pixelsOfBox[n]);
    }
    CHECK.due(name + "pixels with a box", stage.ask("count", 3), pixels);
    CHECK.due(name + "pieces laid in all", stage.ask("count", 4), laid);
    CHECK.due(name + "all of the first picture is new", stage.ask("changed", 0), pixels);
  }

  /** One that fell "as far as it can" falls no further: what lies lower had its turn ahead of it. */
  private void whatHasFallenRests() throws ReflectiveOperationException {
    int[][] before = boxes();
    int went = stage.make("drop");
    int[][] after = boxes();
    for (int n = 0; n < 24; n++) {
      if (before[n] != null) {
        went -= before[n][4] - after[n][4];
        CHECK.due(name + "box " + n + " goes no further down", stage.make("slide", n, 5, 32), 0);
      }
    }
    CHECK.due(name + "places that all went, but for those of each", went, 0);
    CHECK.due(name + "a second drop", stage.make("drop"), 0);
  }
}
