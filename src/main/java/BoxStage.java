import java.util.Arrays;

/**
 * A stage of boxes, seen from a corner; ../shared/DOC.md says what it does. A block is six numbers
 * that follow one another in a row: X0, X1, Y0, Y1, Z0, Z1. Lengths along a ray are in quarters, so
 * that all of them are whole.
 */
public final class BoxStage {
  public static final int NONE = -1;

  private static final int ROOM = 32;
  private static final int AXES = 3;
  private static final int ENDS = 6;

  private static final int BOXES = 24;
  private static final int COLOURS = 16;
  private static final int SPRITES = 8;
  private static final int ROWS = 8;
  private static final int LOOKS = 4;
  private static final int PLACES = 4;
  private static final int HOLE = 0;
  private static final int ROW_BITS = 0xFFFF;
  private static final int ROW_OF_ONES = 0x5555;

  private static final int MOST_PIECES = 96;
  private static final int NUMBERS = BOXES + MOST_PIECES;

  private static final int COLUMNS = 64;
  private static final int COLUMN = 128;
  private static final int LEAST_I = -32;
  private static final int LEAST_J = -64;
  private static final int NO_CHANGE = 100;

  private final Scene scene = new Scene();
  private final Scene[] kept = new Scene[PLACES];
  private final boolean[] isKept = new boolean[PLACES];
  private final Picture picture = new Picture();
  private final Ray ray = new Ray();
  private final Outline outline = new Outline();
  private final Outline otherOutline = new Outline();
  private final int[] exits = new int[BOXES];
  private final int[] heights = new int[BOXES];
  private Pieces shown = new Pieces();
  private Pieces spare = new Pieces();
  private int drawings = 0;

  public BoxStage() {
    for (int place = 0; place < PLACES; place++) {
      kept[place] = new Scene();
    }
  }

  public int place(int n, int x, int y, int z, int dx, int dy, int dz) {
    if (!isBelow(n, BOXES) || !liesInRoom(x, dx) || !liesInRoom(y, dy) || !liesInRoom(z, dz)) {
      return 1;
    }
    scene.tryAlong(0, x, dx);
    scene.tryAlong(1, y, dy);
    scene.tryAlong(2, z, dz);
    int other = scene.lowestInTheWay(n);
    if (other != NONE) {
      return 2 + 8 * other;
    }
    scene.settle(n);
    return 0;
  }

  public boolean lift(int n) {
    if (!scene.has(n)) {
      return false;
    }
    scene.takeAway(n);
    return true;
  }

  public boolean paint(int n, int colour, int p, int q, int r) {
    boolean canBe = isBelow(colour, COLOURS) && isBelow(p, SPRITES) && isBelow(q, SPRITES) && isBelow(r, SPRITES);
    if (!scene.has(n) || !canBe) {
      return false;
    }
    scene.setLooks(n, colour, p, q, r);
    return true;
  }

  public boolean ink(int p, int r, int word) {
    if (!isBelow(p, SPRITES) || !isBelow(r, ROWS)) {
      return false;
    }
    scene.rows[p * ROWS + r] = word & ROW_BITS;
    return true;
  }

  public int slide(int n, int axis, int most) {
    if (!scene.has(n) || !isBelow(axis, 2 * AXES) || !isBelow(most, ROOM + 1)) {
      return NONE;
    }
    return axis < AXES ? scene.go(n, axis, 1, most) : scene.go(n, axis - AXES, -1, most);
  }

  public int drop() {
    // The turns go by the heights ahead of the first fall, which the falls themselves change.
    for (int n = 0; n < BOXES; n++) {
      heights[n] = scene.has(n) ? scene.ends[n * ENDS + 4] : NONE;
    }
    int went = 0;
    for (int height = 0; height < ROOM; height++) {
      for (int n = 0; n < BOXES; n++) {
        if (heights[n] == height) {
          went += scene.go(n, 2, -1, ROOM);
        }
      }
    }
    return went;
  }

  public int draw() {
    spare.load(scene);
    if (!spare.putInOrder()) {
      return NONE;
    }
    Pieces drawn = spare;
    spare = shown;
    shown = drawn;
    picture.show(scene, shown);
    drawings++;
    return shown.count;
  }

  public int piece(int k, int what) {
    if (!isBelow(k, shown.ordered)) {
      return NONE;
    }
    int number = shown.order[k];
    switch (what) {
      case 0:
        return shown.owners[number];
      case 1:
        return number;
      default:
        return isBelow(what - 2, ENDS) ? shown.ends[number * ENDS + what - 2] : NONE;
    }
  }

  public int pixel(int i, int j, int what) {
    if (drawings == 0 || !isPixel(i, j)) {
      return NONE;
    }
    int cell = picture.cells[Picture.cellOf(i, j)];
    if (what == 3) {
      return Picture.laidOf(cell);
    }
    if (!Picture.hasBox(cell)) {
      return NONE;
    }
    switch (what) {
      case 0:
        return Picture.boxOf(cell);
      case 1:
        return Picture.faceOf(cell);
      case 2:
        return Picture.paintOf(cell);
      default:
        return NONE;
    }
  }

  public int seen(int n) {
    return isBelow(n, BOXES) ? picture.pixelsOfBox[n] : 0;
  }

  public int changed(int what) {
    return isBelow(what, picture.differences.length) ? picture.differences[what] : NONE;
  }

  public int count(int what) {
    switch (what) {
      case 0:
        return shown.count;
      case 1:
        return shown.cuts();
      case 2:
        return shown.boxesCut();
      case 3:
        return picture.pixelsWithBox;
      case 4:
        return picture.laidInAll;
      case 5:
        return scene.howMany();
      case 6:
        return drawings;
      default:
        return NONE;
    }
  }

  public int covers(int a, int b) {
    if (!scene.has(a) || !scene.has(b) || a == b) {
      return NONE;
    }
    if (!liesBeyond(scene.ends, a, b)) {
      return 0;
    }
    outline.setTo(scene.ends, a * ENDS);
    otherOutline.setTo(scene.ends, b * ENDS);
    outline.meet(otherOutline);
    return outline.howManyPixels();
  }

  public int tangled(int n) {
    if (!scene.has(n)) {
      return NONE;
    }
    spare.load(scene);
    spare.findTangle(n);
    return spare.tangle.size();
  }

  public int under(int i, int j, int k) {
    if (!isPixel(i, j)) {
      return NONE;
    }
    findExits(i, j);
    for (int n = 0; n < BOXES; n++) {
      if (exits[n] != NONE && howManyNearer(n) == k) {
        return n;
      }
    }
    return NONE;
  }

  public int box(int n, int what) {
    if (!scene.has(n)) {
      return NONE;
    }
    if (isBelow(what, ENDS)) {
      return scene.ends[n * ENDS + what];
    }
    return isBelow(what - ENDS, LOOKS) ? scene.looks[n * LOOKS + what - ENDS] : NONE;
  }

  public boolean keep(int place) {
    if (!isBelow(place, PLACES)) {
      return false;
    }
    kept[place].copyFrom(scene);
    isKept[place] = true;
    return true;
  }

  public boolean back(int place) {
    if (!isBelow(place, PLACES) || !isKept[place]) {
      return false;
    }
    scene.copyFrom(kept[place]);
    return true;
  }

  private void findExits(int i, int j) {
    ray.aim(i, j);
    for (int n = 0; n < BOXES; n++) {
      exits[n] = NONE;
      if (scene.has(n) && ray.hits(scene.ends, n * ENDS)) {
        ray.leave(scene.ends, n * ENDS);
        exits[n] = ray.exit;
      }
    }
  }

  private int howManyNearer(int n) {
    int nearer = 0;
    for (int other = 0; other < BOXES; other++) {
      if (exits[other] > exits[n]) {
        nearer++;
      }
    }
    return nearer;
  }

  private static boolean isBelow(int value, int bound) {
    return value >= 0 && value < bound;
  }

  private static boolean isPixel(int i, int j) {
    // Compared, not subtracted: the difference of far numbers would wrap around into the range.
    return i >= LEAST_I && i < LEAST_I + COLUMNS && j >= LEAST_J && j < LEAST_J + COLUMN;
  }

  private static boolean liesInRoom(int first, int size) {
    // Both are bounded ahead of the sum, which would wrap around otherwise.
    return first >= 0 && size > 0 && size <= ROOM && first <= ROOM - size;
  }

  /**
   * Whether block p begins where block q ends, or further, along some axis. A ray climbs along all
   * three axes at once, so of two blocks that share no room and that it hits, this one is the nearer.
   */
  private static boolean liesBeyond(int[] ends, int p, int q) {
    for (int axis = 0; axis < AXES; axis++) {
      if (ends[p * ENDS + 2 * axis] >= ends[q * ENDS + 2 * axis + 1]) {
        return true;
      }
    }
    return false;
  }

  /** The boxes and the sprites: what is kept and comes back as one. */
  static final class Scene {
    /** A bit for each box, set if it is there. */
    int there = 0;
    final int[] ends = new int[BOXES * ENDS];
    /** Of each box its colour, then the sprites of its faces 0, 1 and 2. */
    final int[] looks = new int[BOXES * LOOKS];
    /** Of each sprite its rows, two bits an ink. */
    final int[] rows = new int[SPRITES * ROWS];
    /** A block that may become a box's, if it lies in the room and nothing is in its way. */
    final int[] trial = new int[ENDS];

    Scene() {
      Arrays.fill(rows, ROW_OF_ONES);
    }

    void copyFrom(Scene other) {
      there = other.there;
      System.arraycopy(other.ends, 0, ends, 0, ends.length);
      System.arraycopy(other.looks, 0, looks, 0, looks.length);
      System.arraycopy(other.rows, 0, rows, 0, rows.length);
    }

    boolean has(int n) {
      return isBelow(n, BOXES) && (there >> n & 1) != 0;
    }

    void takeAway(int n) {
      there &= ~(1 << n);
    }

    int howMany() {
      return Integer.bitCount(there);
    }

    void setLooks(int n, int colour, int p, int q, int r) {
      looks[n * LOOKS] = colour;
      looks[n * LOOKS + 1] = p;
      looks[n * LOOKS + 2] = q;
      looks[n * LOOKS + 3] = r;
    }

    void tryAlong(int axis, int first, int size) {
      trial[2 * axis] = first;
      trial[2 * axis + 1] = first + size;
    }

    /** Box n gets the trial's block; one that was not there has nothing left of its earlier looks. */
    void settle(int n) {
      if (!has(n)) {
        setLooks(n, 0, 0, 0, 0);
        there |= 1 << n;
      }
      System.arraycopy(trial, 0, ends, n * ENDS, ENDS);
    }

    /** The lowest box, other than n, that shares room with the trial. */
    int lowestInTheWay(int n) {
      for (int other = 0; other < BOXES; other++) {
        if (other != n && has(other) && sharesRoom(other)) {
          return other;
        }
      }
      return NONE;
    }

    boolean sharesRoom(int other) {
      for (int axis = 0; axis < AXES; axis++) {
        int at = other * ENDS + 2 * axis;
        if (trial[2 * axis] >= ends[at + 1] || ends[at] >= trial[2 * axis + 1]) {
          return false;
        }
      }
      return true;
    }

    /** How many steps, up to most, box n can go along the axis; it goes them. */
    int go(int n, int axis, int step, int most) {
      System.arraycopy(ends, n * ENDS, trial, 0, ENDS);
      int went = 0;
      while (went < most) {
        trial[2 * axis] += step;
        trial[2 * axis + 1] += step;
        boolean inRoom = trial[2 * axis] >= 0 && trial[2 * axis + 1] <= ROOM;
        if (!inRoom || lowestInTheWay(n) != NONE) {
          break;
        }
        settle(n);
        went++;
      }
      return went;
    }

    /** The ink of box n at the spot where the ray has left it, or a piece of it. */
    int inkAt(int n, Ray ray) {
      int sprite = looks[n * LOOKS + 1 + ray.face];
      int row = rows[sprite * ROWS + ray.spotRow()];
      return row >> 2 * ray.spotPlace() & 3;
    }
  }

  /** The ray of a pixel, and where it left the block that was asked for last. */
  static final class Ray {
    int a;
    int b;
    int exit;
    int face;

    void aim(int i, int j) {
      a = 2 * j + 2 * i + 1;
      b = 2 * j - 2 * i - 1;
    }

    boolean hits(int[] ends, int at) {
      int enter = Math.max(4 * ends[at] - a, Math.max(4 * ends[at + 2] - b, 4 * ends[at + 4]));
      int leave = Math.min(4 * ends[at + 1] - a, Math.min(4 * ends[at + 3] - b, 4 * ends[at + 5]));
      return enter < leave;
    }

    void leave(int[] ends, int at) {
      int alongX = 4 * ends[at + 1] - a;
      int alongY = 4 * ends[at + 3] - b;
      face = 2;
      exit = 4 * ends[at + 5];
      if (alongX < exit) {
        face = 0;
        exit = alongX;
      }
      if (alongY < exit) {
        face = 1;
        exit = alongY;
      }
    }

    int spotRow() {
      return wholeInSprite(face == 2 ? exit + b : exit);
    }

    int spotPlace() {
      return wholeInSprite(face == 0 ? exit + b : exit + a);
    }

    static int wholeInSprite(int quarters) {
      return quarters >> 2 & 7;
    }
  }

  /**
   * The pixels whose rays hit a block, or both of two. A ray hits a block if x - z, y - z and x - y,
   * which stay the same along it, lie between their bounds in the block: for each i one run of j.
   */
  static final class Outline {
    int leastXz;
    int mostXz;
    int leastYz;
    int mostYz;
    int firstI;
    int lastI;

    void setTo(int[] ends, int at) {
      leastXz = ends[at] - ends[at + 5];
      mostXz = ends[at + 1] - ends[at + 4];
      leastYz = ends[at + 2] - ends[at + 5];
      mostYz = ends[at + 3] - ends[at + 4];
      firstI = ends[at] - ends[at + 3];
      lastI = ends[at + 1] - ends[at + 2] - 1;
    }

    void meet(Outline other) {
      leastXz = Math.max(leastXz, other.leastXz);
      mostXz = Math.min(mostXz, other.mostXz);
      leastYz = Math.max(leastYz, other.leastYz);
      mostYz = Math.min(mostYz, other.mostYz);
      firstI = Math.max(firstI, other.firstI);
      lastI = Math.min(lastI, other.lastI);
    }

    int firstJ(int i) {
      return Math.max(2 * leastXz - i, 2 * leastYz + i + 1);
    }

    int lastJ(int i) {
      return Math.min(2 * mostXz - i - 1, 2 * mostYz + i);
    }

    int howManyPixels() {
      int pixels = 0;
      for (int i = firstI; i <= lastI; i++) {
        pixels += Math.max(0, lastJ(i) - firstJ(i) + 1);
      }
      return pixels;
    }
  }

  /** A set of numbers of pieces. */
  static final class Numbers {
    long low;
    long high;

    void clear() {
      low = 0;
      high = 0;
    }

    void copyFrom(Numbers other) {
      low = other.low;
      high = other.high;
    }

    void add(int number) {
      if (number < 64) {
        low |= 1L << number;
      } else {
        high |= 1L << (number - 64);
      }
    }

    void remove(int number) {
      if (number < 64) {
        low &= ~(1L << number);
      } else {
        high &= ~(1L << (number - 64));
      }
    }

    boolean has(int number) {
      return ((number < 64 ? low >> number : high >> (number - 64)) & 1) != 0;
    }

    void addAll(Numbers other) {
      low |= other.low;
      high |= other.high;
    }

    void removeAll(Numbers other) {
      low &= ~other.low;
      high &= ~other.high;
    }

    void keepThoseIn(Numbers other) {
      low &= other.low;
      high &= other.high;
    }

    boolean meets(Numbers other) {
      return (low & other.low) != 0 || (high & other.high) != 0;
    }

    boolean isEmpty() {
      return low == 0 && high == 0;
    }

    int size() {
      return Long.bitCount(low) + Long.bitCount(high);
    }

    /** The lowest number of a set that is not empty. */
    int lowest() {
      // The bits below the lowest one that is set are as many as its place says.
      return low != 0 ? Long.bitCount((low & -low) - 1) : 64 + Long.bitCount((high & -high) - 1);
    }
  }

  /** The pieces of one drawing, by their numbers, and the order in which they are drawn. */
  static final class Pieces {
    final int[] ends = new int[NUMBERS * ENDS];
    final int[] owners = new int[NUMBERS];
    final int[] order = new int[MOST_PIECES];
    int ordered = 0;
    int count = 0;
    int nextNumber = BOXES;
    /** Those that were not drawn yet. */
    final Numbers left = new Numbers();
    /** Of each piece those that it covers, and those that cover it. */
    final Numbers[] below = new Numbers[NUMBERS];
    final Numbers[] above = new Numbers[NUMBERS];
    /** Those that are tangled with the piece that was asked for last, and itself. */
    final Numbers tangle = new Numbers();
    final Numbers backwards = new Numbers();
    final Numbers toFollow = new Numbers();

    Pieces() {
      for (int number = 0; number < NUMBERS; number++) {
        below[number] = new Numbers();
        above[number] = new Numbers();
      }
    }

    /** All pieces are the scene's boxes, none of them drawn. */
    void load(Scene scene) {
      System.arraycopy(scene.ends, 0, ends, 0, scene.ends.length);
      left.clear();
      ordered = 0;
      count = 0;
      nextNumber = BOXES;
      for (int n = 0; n < BOXES; n++) {
        if (scene.has(n)) {
          owners[n] = n;
          bringIn(n);
          count++;
        }
      }
    }

    /** A piece that is new, or has become smaller, takes its place among those that were not drawn. */
    void bringIn(int number) {
      left.add(number);
      below[number].clear();
      above[number].clear();
      for (int other = 0; other < nextNumber; other++) {
        if (other != number && left.has(other)) {
          below[other].remove(number);
          above[other].remove(number);
          if (haveCommonPixel(number, other)) {
            relate(number, other);
          }
        }
      }
    }

    void relate(int p, int q) {
      boolean isNearer = liesBeyond(ends, p, q);
      int nearer = isNearer ? p : q;
      int farther = isNearer ? q : p;
      below[nearer].add(farther);
      above[farther].add(nearer);
    }

    /**
     * Outlines have sides in three directions, so two of them overlap if none of these three parts
     * them. Their sides lie on whole numbers, so what they have in common then holds a pixel: there
     * is one in each of the triangles into which the lines at whole numbers cut the plane.
     */
    boolean haveCommonPixel(int p, int q) {
      return overlapBetween(0, 2, p, q) && overlapBetween(0, 4, p, q) && overlapBetween(2, 4, p, q);
    }

    /** Whether the differences of the coordinates that begin at u and at v overlap in p and q. */
    boolean overlapBetween(int u, int v, int p, int q) {
      int atP = p * ENDS;
      int atQ = q * ENDS;
      int leastP = ends[atP + u] - ends[atP + v + 1];
      int mostP = ends[atP + u + 1] - ends[atP + v];
      int leastQ = ends[atQ + u] - ends[atQ + v + 1];
      int mostQ = ends[atQ + u + 1] - ends[atQ + v];
      return leastP < mostQ && leastQ < mostP;
    }

    /** Draws all pieces, and cuts one where none can be drawn; false: they would be too many. */
    boolean putInOrder() {
      for (int step = 0; step < 2 * MOST_PIECES && !left.isEmpty(); step++) {
        int free = lowestFree();
        if (free != NONE) {
          order[ordered] = free;
          ordered++;
          left.remove(free);
        } else if (!cutOne()) {
          return false;
        }
      }
      return left.isEmpty();
    }

    int lowestFree() {
      for (int number = 0; number < nextNumber; number++) {
        if (left.has(number) && !below[number].meets(left)) {
          return number;
        }
      }
      return NONE;
    }

    /** Cuts the lowest piece that a plane cuts; false: there would be too many pieces. */
    boolean cutOne() {
      if (count >= MOST_PIECES) {
        return false;
      }
      for (int number = 0; number < nextNumber; number++) {
        if (left.has(number)) {
          findTangle(number);
          for (int axis = 0; axis < AXES; axis++) {
            int plane = lowestPlane(number, axis);
            if (plane != NONE) {
              cut(number, axis, plane);
              return true;
            }
          }
        }
      }
      return false;
    }

    void findTangle(int number) {
      follow(below, number, tangle);
      follow(above, number, backwards);
      tangle.keepThoseIn(backwards);
    }

    /** Finds all to which the rows lead from the piece, over others that were not drawn. */
    void follow(Numbers[] rows, int number, Numbers found) {
      found.clear();
      toFollow.copyFrom(rows[number]);
      toFollow.keepThoseIn(left);
      for (int step = 0; step < NUMBERS && !toFollow.isEmpty(); step++) {
        int next = toFollow.lowest();
        found.add(next);
        toFollow.addAll(rows[next]);
        toFollow.keepThoseIn(left);
        toFollow.removeAll(found);
      }
    }

    int lowestPlane(int number, int axis) {
      int begin = ends[number * ENDS + 2 * axis];
      int end = ends[number * ENDS + 2 * axis + 1];
      int lowest = end;
      for (int other = 0; other < nextNumber; other++) {
        if (tangle.has(other)) {
          int otherBegin = ends[other * ENDS + 2 * axis];
          int otherEnd = ends[other * ENDS + 2 * axis + 1];
          lowest = otherBegin > begin ? Math.min(lowest, otherBegin) : lowest;
          lowest = otherEnd > begin ? Math.min(lowest, otherEnd) : lowest;
        }
      }
      return lowest < end ? lowest : NONE;
    }

    void cut(int number, int axis, int plane) {
      int upper = nextNumber;
      nextNumber++;
      System.arraycopy(ends, number * ENDS, ends, upper * ENDS, ENDS);
      owners[upper] = owners[number];
      ends[number * ENDS + 2 * axis + 1] = plane;
      ends[upper * ENDS + 2 * axis] = plane;
      bringIn(number);
      bringIn(upper);
      count++;
    }

    int cuts() {
      return nextNumber - BOXES;
    }

    int boxesCut() {
      int cutOnes = 0;
      for (int number = BOXES; number < nextNumber; number++) {
        cutOnes |= 1 << owners[number];
      }
      return Integer.bitCount(cutOnes);
    }
  }

  /**
   * The picture of the latest drawing. A cell holds its box, face, colour and ink in its low bits
   * (none of these set: no box, as an ink that shows is not 0), and above them how many pieces were
   * laid there.
   */
  static final class Picture {
    static final int LOOK = 0xFFFF;
    static final int ONE_LAID = 0x10000;

    int[] cells = new int[COLUMNS * COLUMN];
    int[] earlierCells = new int[COLUMNS * COLUMN];
    final int[] pixelsOfBox = new int[BOXES];
    /** At how many pixels this picture and the earlier one differ, the least and greatest i, and j. */
    final int[] differences = {0, NO_CHANGE, NO_CHANGE, NO_CHANGE, NO_CHANGE};
    int pixelsWithBox = 0;
    int laidInAll = 0;
    final Ray ray = new Ray();
    final Outline outline = new Outline();

    static int cellOf(int i, int j) {
      return (i - LEAST_I) * COLUMN + j - LEAST_J;
    }

    static boolean hasBox(int cell) {
      return (cell & LOOK) != 0;
    }

    static int boxOf(int cell) {
      return cell >> 8 & 31;
    }

    static int faceOf(int cell) {
      return cell >> 6 & 3;
    }

    /** The colour and 16 times the ink, as the face of the stage tells them. */
    static int paintOf(int cell) {
      return cell & 63;
    }

    static int laidOf(int cell) {
      return cell / ONE_LAID;
    }

    static int lookOf(int box, int face, int colour, int ink) {
      return box << 8 | face << 6 | ink << 4 | colour;
    }

    void show(Scene scene, Pieces pieces) {
      int[] latest = cells;
      cells = earlierCells;
      earlierCells = latest;
      Arrays.fill(cells, 0);
      for (int k = 0; k < pieces.ordered; k++) {
        lay(scene, pieces, pieces.order[k]);
      }
      countAll();
    }

    void lay(Scene scene, Pieces pieces, int number) {
      outline.setTo(pieces.ends, number * ENDS);
      for (int i = outline.firstI; i <= outline.lastI; i++) {
        int lastJ = outline.lastJ(i);
        for (int j = outline.firstJ(i); j <= lastJ; j++) {
          ray.aim(i, j);
          ray.leave(pieces.ends, number * ENDS);
          int ink = scene.inkAt(pieces.owners[number], ray);
          if (ink != HOLE) {
            layInk(scene, pieces, number, ink, cellOf(i, j));
          }
        }
      }
    }

    /**
     * A piece counts as laid wherever it has an ink, but where the ray leaves it through a cut, the
     * box goes on behind the cut: there the picture must not show the cut through the box's holes.
     */
    void layInk(Scene scene, Pieces pieces, int number, int ink, int at) {
      int box = pieces.owners[number];
      int end = 2 * ray.face + 1;
      if (pieces.ends[number * ENDS + end] == scene.ends[box * ENDS + end]) {
        int look = lookOf(box, ray.face, scene.looks[box * LOOKS], ink);
        cells[at] = (cells[at] & ~LOOK) + look;
      }
      cells[at] += ONE_LAID;
    }

    void countAll() {
      Arrays.fill(pixelsOfBox, 0);
      Arrays.fill(differences, NO_CHANGE);
      differences[0] = 0;
      pixelsWithBox = 0;
      laidInAll = 0;
      for (int at = 0; at < cells.length; at++) {
        int cell = cells[at];
        laidInAll += laidOf(cell);
        if (hasBox(cell)) {
          pixelsOfBox[boxOf(cell)]++;
          pixelsWithBox++;
        }
        if (((cell ^ earlierCells[at]) & LOOK) != 0) {
          addDifference(at / COLUMN + LEAST_I, at % COLUMN + LEAST_J);
        }
      }
    }

    void addDifference(int i, int j) {
      boolean isFirst = differences[0] == 0;
      differences[0]++;
      differences[1] = isFirst ? i : Math.min(differences[1], i);
      differences[2] = isFirst ? i : Math.max(differences[2], i);
      differences[3] = isFirst ? j : Math.min(differences[3], j);
      differences[4] = isFirst ? j : Math.max(differences[4], j);
    }
  }
}
