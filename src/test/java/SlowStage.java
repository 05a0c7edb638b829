import java.util.ArrayList;
import java.util.Arrays;
import java.util.List;

/**
 * The document's words as a slow program, for comparison: every term is looked up pixel by pixel
 * and piece by piece, with none of the shortcuts that BoxStage takes. The methods of the public face
 * bear the same names.
 */
final class SlowStage {
  static final int NONE = -1;

  /** A box or a piece. Its ends don't change once an exit was asked for: the exits are looked up again. */
  private static final class Block {
    final int number;
    final int owner;
    final int[] from;
    final int[] to;
    int colour = 0;
    int[] sprites = new int[3];
    private int[] exits = null;

    Block(int number, int owner, int[] from, int[] to) {
      this.number = number;
      this.owner = owner;
      this.from = from;
      this.to = to;
    }

    Block copy(int newNumber) {
      Block other = new Block(newNumber, owner, from.clone(), to.clone());
      other.colour = colour;
      other.sprites = sprites.clone();
      return other;
    }

    boolean sharesRoom(Block other) {
      for (int axis = 0; axis < 3; axis++) {
        if (Math.max(from[axis], other.from[axis]) >= Math.min(to[axis], other.to[axis])) {
          return false;
        }
      }
      return true;
    }

    boolean inRoom() {
      for (int axis = 0; axis < 3; axis++) {
        if (from[axis] < 0 || from[axis] >= to[axis] || to[axis] > 32) {
          return false;
        }
      }
      return true;
    }

    /** The exit in quarters; NONE if the ray of the pixel does not hit the block. */
    int exit(int i, int j) {
      if (exits == null) {
        exits = new int[64 * 128];
        for (int at = 0; at < exits.length; at++) {
          exits[at] = findExit(at / 128 - 32, at % 128 - 64);
        }
      }
      return exits[(i + 32) * 128 + j + 64];
    }

    private int findExit(int i, int j) {
      int[] shift = {2 * j + 2 * i + 1, 2 * j - 2 * i - 1, 0};
      int first = Integer.MIN_VALUE;
      int last = Integer.MAX_VALUE;
      for (int axis = 0; axis < 3; axis++) {
        first = Math.max(first, 4 * from[axis] - shift[axis]);
        last = Math.min(last, 4 * to[axis] - shift[axis]);
      }
      return first < last ? last : NONE;
    }

    int face(int i, int j) {
      int exit = exit(i, j);
      int[] spot = {exit + 2 * j + 2 * i + 1, exit + 2 * j - 2 * i - 1, exit};
      for (int axis = 0; axis < 3; axis++) {
        if (spot[axis] == 4 * to[axis]) {
          return axis;
        }
      }
      throw new IllegalStateException("an exit through no face");
    }

    int ink(int i, int j, int[][][] inks) {
      int exit = exit(i, j);
      int x = Math.floorMod(Math.floorDiv(exit + 2 * j + 2 * i + 1, 4), 8);
      int y = Math.floorMod(Math.floorDiv(exit + 2 * j - 2 * i - 1, 4), 8);
      int z = Math.floorMod(Math.floorDiv(exit, 4), 8);
      int face = face(i, j);
      int[][] sprite = inks[sprites[face]];
      return face == 0 ? sprite[z][y] : face == 1 ? sprite[z][x] : sprite[y][x];
    }

    boolean shows(int i, int j, int[][][] inks) {
      return exit(i, j) != NONE && ink(i, j, inks) != 0;
    }
  }

  private static final class State {
    final Block[] boxes = new Block[24];
    final int[][][] inks = new int[8][8][8];

    State copy() {
      State other = new State();
      for (int n = 0; n < 24; n++) {
        other.boxes[n] = boxes[n] == null ? null : boxes[n].copy(n);
      }
      for (int p = 0; p < 8; p++) {
        for (int r = 0; r < 8; r++) {
          other.inks[p][r] = inks[p][r].clone();
        }
      }
      return other;
    }
  }

  /** A drawing; the arrays are by i + 32 and j + 64. */
  private static final class Drawing {
    final List<Block> order = new ArrayList<>();
    int cuts = 0;
    final int[][][] looks = new int[64][128][];
    final int[][] laid = new int[64][128];
  }

  private State state = new State();
  private final State[] kept = new State[4];
  private Drawing latest = new Drawing();
  private Drawing earlier = new Drawing();
  private int drawings = 0;

  SlowStage() {
    for (int[][] sprite : state.inks) {
      for (int[] row : sprite) {
        Arrays.fill(row, 1);
      }
    }
  }

  private static boolean within(int value, int least, int most) {
    return least <= value && value <= most;
  }

  private Block boxOrNull(int n) {
    return within(n, 0, 23) ? state.boxes[n] : null;
  }

  private static boolean isPixel(int i, int j) {
    return within(i, -32, 31) && within(j, -64, 63);
  }

  int place(int n, int x, int y, int z, int dx, int dy, int dz) {
    int[] from = {x, y, z};
    int[] size = {dx, dy, dz};
    int[] to = new int[3];
    for (int axis = 0; axis < 3; axis++) {
      if (from[axis] < 0 || size[axis] < 1 || (long) from[axis] + size[axis] > 32) {
        return 1;
      }
      to[axis] = from[axis] + size[axis];
    }
    if (!within(n, 0, 23)) {
      return 1;
    }
    Block block = new Block(n, n, from, to);
    int other = lowestSharing(block);
    if (other != NONE) {
      return 2 + 8 * other;
    }
    if (state.boxes[n] != null) {
      block.colour = state.boxes[n].colour;
      block.sprites = state.boxes[n].sprites;
    }
    state.boxes[n] = block;
    return 0;
  }

  private int lowestSharing(Block block) {
    for (int other = 0; other < 24; other++) {
      if (other != block.number && state.boxes[other] != null && block.sharesRoom(state.boxes[other])) {
        return other;
      }
    }
    return NONE;
  }

  boolean lift(int n) {
    boolean was = boxOrNull(n) != null;
    if (was) {
      state.boxes[n] = null;
    }
    return was;
  }

  boolean paint(int n, int colour, int p, int q, int r) {
    boolean sprites = within(p, 0, 7) && within(q, 0, 7) && within(r, 0, 7);
    if (boxOrNull(n) == null || !within(colour, 0, 15) || !sprites) {
      return false;
    }
    state.boxes[n].colour = colour;
    state.boxes[n].sprites = new int[] {p, q, r};
    return true;
  }

  boolean ink(int p, int r, int word) {
    if (!within(p, 0, 7) || !within(r, 0, 7)) {
      return false;
    }
    int rest = word & 0xFFFF;
    for (int place = 0; place < 8; place++) {
      state.inks[p][r][place] = rest % 4;
      rest /= 4;
    }
    return true;
  }

  int slide(int n, int axis, int most) {
    if (boxOrNull(n) == null || !within(axis, 0, 5) || !within(most, 0, 32)) {
      return NONE;
    }
    int went = 0;
    while (went < most) {
      Block next = state.boxes[n].copy(n);
      next.from[axis % 3] += axis < 3 ? 1 : -1;
      next.to[axis % 3] += axis < 3 ? 1 : -1;
      if (!next.inRoom() || lowestSharing(next) != NONE) {
        break;
      }
      state.boxes[n] = next;
      went++;
    }
    return went;
  }

  int drop() {
    List<Block> turns = new ArrayList<>();
    for (Block box : state.boxes) {
      if (box != null) {
        turns.add(box);
      }
    }
    turns.sort((p, q) -> p.from[2] != q.from[2] ? p.from[2] - q.from[2] : p.number - q.number);
    int went = 0;
    for (Block box : turns) {
      went += slide(box.number, 5, 32);
    }
    return went;
  }

  private static boolean covers(Block p, Block q) {
    for (int i = -32; i < 32; i++) {
      for (int j = -64; j < 64; j++) {
        int exit = p.exit(i, j);
        int other = q.exit(i, j);
        if (exit != NONE && other != NONE && exit > other) {
          return true;
        }
      }
    }
    return false;
  }

  private List<Block> boxesThere() {
    List<Block> boxes = new ArrayList<>();
    for (Block box : state.boxes) {
      if (box != null) {
        boxes.add(box.copy(box.number));
      }
    }
    return boxes;
  }

  private static boolean[][] coverings(List<Block> blocks) {
    boolean[][] over = new boolean[blocks.size()][blocks.size()];
    for (int p = 0; p < blocks.size(); p++) {
      for (int q = 0; q < blocks.size(); q++) {
        over[p][q] = p != q && covers(blocks.get(p), blocks.get(q));
      }
    }
    return over;
  }

  /** Who reaches whom over one covering or more. */
  private static boolean[][] closure(boolean[][] over) {
    int size = over.length;
    boolean[][] reach = new boolean[size][];
    for (int p = 0; p < size; p++) {
      reach[p] = over[p].clone();
    }
    for (int by = 0; by < size; by++) {
      for (int p = 0; p < size; p++) {
        for (int q = 0; q < size; q++) {
          reach[p][q] |= reach[p][by] && reach[by][q];
        }
      }
    }
    return reach;
  }

  int draw() {
    Drawing drawing = new Drawing();
    if (!putInOrder(drawing)) {
      return NONE;
    }
    for (int i = -32; i < 32; i++) {
      for (int j = -64; j < 64; j++) {
        drawing.looks[i + 32][j + 64] = look(i, j);
        for (Block piece : drawing.order) {
          drawing.laid[i + 32][j + 64] += piece.shows(i, j, state.inks) ? 1 : 0;
        }
      }
    }
    earlier = latest;
    latest = drawing;
    drawings++;
    return drawing.order.size();
  }

  /** Box, face, colour and ink of the picture; null if there is no box. */
  private int[] look(int i, int j) {
    Block nearest = null;
    for (Block box : state.boxes) {
      boolean shows = box != null && box.shows(i, j, state.inks);
      if (shows && (nearest == null || box.exit(i, j) > nearest.exit(i, j))) {
        nearest = box;
      }
    }
    return nearest == null
        ? null
        : new int[] {nearest.number, nearest.face(i, j), nearest.colour, nearest.ink(i, j, state.inks)};
  }

  private boolean putInOrder(Drawing drawing) {
    List<Block> left = boxesThere();
    boolean[][] over = coverings(left);
    while (!left.isEmpty()) {
      int free = firstFree(over);
      if (free != NONE) {
        drawing.order.add(left.remove(free));
        over = without(over, free);
        continue;
      }
      int at = cutFirst(left, closure(over), drawing);
      if (drawing.order.size() + left.size() > 96) {
        return false;
      }
      over = coverings(left, over, at);
    }
    return true;
  }

  private static int firstFree(boolean[][] over) {
    for (int p = 0; p < over.length; p++) {
      boolean isFree = true;
      for (boolean one : over[p]) {
        isFree &= !one;
      }
      if (isFree) {
        return p;
      }
    }
    return NONE;
  }

  private static boolean[][] without(boolean[][] over, int gone) {
    boolean[][] rest = new boolean[over.length - 1][over.length - 1];
    for (int p = 0; p < rest.length; p++) {
      for (int q = 0; q < rest.length; q++) {
        rest[p][q] = over[p < gone ? p : p + 1][q < gone ? q : q + 1];
      }
    }
    return rest;
  }

  /** The coverings after the block at the place was cut and its upper part came to the end. */
  private static boolean[][] coverings(List<Block> blocks, boolean[][] before, int at) {
    int last = blocks.size() - 1;
    boolean[][] over = new boolean[last + 1][last + 1];
    for (int p = 0; p <= last; p++) {
      for (int q = 0; q <= last; q++) {
        boolean isNew = p == at || q == at || p == last || q == last;
        over[p][q] = isNew ? p != q && covers(blocks.get(p), blocks.get(q)) : before[p][q];
      }
    }
    return over;
  }

  /** Cuts the first block that has a plane and tells its place in the list. */
  private static int cutFirst(List<Block> left, boolean[][] reach, Drawing drawing) {
    for (int p = 0; p < left.size(); p++) {
      Block block = left.get(p);
      for (int axis = 0; axis < 3; axis++) {
        for (int plane = block.from[axis] + 1; plane < block.to[axis]; plane++) {
          if (isPlane(left, reach, p, axis, plane)) {
            Block lower = block.copy(block.number);
            Block upper = block.copy(24 + drawing.cuts);
            lower.to[axis] = plane;
            upper.from[axis] = plane;
            left.set(p, lower);
            left.add(upper);
            drawing.cuts++;
            return p;
          }
        }
      }
    }
    throw new IllegalStateException("a tangle without a plane");
  }

  private static boolean isPlane(List<Block> left, boolean[][] reach, int p, int axis, int plane) {
    for (int q = 0; q < left.size(); q++) {
      Block other = left.get(q);
      boolean isTangled = q != p && reach[p][q] && reach[q][p];
      if (isTangled && (other.from[axis] == plane || other.to[axis] == plane)) {
        return true;
      }
    }
    return false;
  }

  int piece(int k, int what) {
    if (!within(k, 0, latest.order.size() - 1) || !within(what, 0, 7)) {
      return NONE;
    }
    Block piece = latest.order.get(k);
    int[] told = {
      piece.owner, piece.number, piece.from[0], piece.to[0], piece.from[1], piece.to[1], piece.from[2], piece.to[2]
    };
    return told[what];
  }

  int pixel(int i, int j, int what) {
    if (!isPixel(i, j) || drawings == 0 || !within(what, 0, 3)) {
      return NONE;
    }
    if (what == 3) {
      return latest.laid[i + 32][j + 64];
    }
    int[] look = latest.looks[i + 32][j + 64];
    return look == null ? NONE : what == 2 ? look[2] + 16 * look[3] : look[what];
  }

  int seen(int n) {
    int pixels = 0;
    for (int[][] column : latest.looks) {
      for (int[] look : column) {
        pixels += look != null && look[0] == n ? 1 : 0;
      }
    }
    return pixels;
  }

  int changed(int what) {
    int[] told = {0, 100, -100, 100, -100};
    for (int i = -32; i < 32; i++) {
      for (int j = -64; j < 64; j++) {
        if (!Arrays.equals(latest.looks[i + 32][j + 64], earlier.looks[i + 32][j + 64])) {
          told[0]++;
          told[1] = Math.min(told[1], i);
          told[2] = Math.max(told[2], i);
          told[3] = Math.min(told[3], j);
          told[4] = Math.max(told[4], j);
        }
      }
    }
    return !within(what, 0, 4) ? NONE : what > 0 && told[0] == 0 ? 100 : told[what];
  }

  int count(int what) {
    int withBox = 0;
    int laid = 0;
    for (int i = 0; i < 64; i++) {
      for (int j = 0; j < 128; j++) {
        withBox += latest.looks[i][j] != null ? 1 : 0;
        laid += latest.laid[i][j];
      }
    }
    int[] told = {latest.order.size(), latest.cuts, boxesCut(), withBox, laid, boxesThere().size(), drawings};
    return within(what, 0, 6) ? told[what] : NONE;
  }

  private int boxesCut() {
    return (int) latest.order.stream().filter(piece -> piece.number >= 24).map(piece -> piece.owner).distinct().count();
  }

  int covers(int a, int b) {
    if (boxOrNull(a) == null || boxOrNull(b) == null || a == b) {
      return NONE;
    }
    int pixels = 0;
    for (int i = -32; i < 32; i++) {
      for (int j = -64; j < 64; j++) {
        int exit = state.boxes[a].exit(i, j);
        int other = state.boxes[b].exit(i, j);
        pixels += exit != NONE && other != NONE && exit > other ? 1 : 0;
      }
    }
    return pixels;
  }

  int tangled(int n) {
    if (boxOrNull(n) == null) {
      return NONE;
    }
    List<Block> boxes = boxesThere();
    boolean[][] reach = closure(coverings(boxes));
    int at = 0;
    while (boxes.get(at).number != n) {
      at++;
    }
    int others = 0;
    for (int q = 0; q < boxes.size(); q++) {
      others += q != at && reach[at][q] && reach[q][at] ? 1 : 0;
    }
    return others == 0 ? 0 : others + 1;
  }

  int under(int i, int j, int k) {
    if (!isPixel(i, j)) {
      return NONE;
    }
    List<Block> hit = boxesThere();
    hit.removeIf(box -> box.exit(i, j) == NONE);
    hit.sort((p, q) -> q.exit(i, j) - p.exit(i, j));
    return within(k, 0, hit.size() - 1) ? hit.get(k).number : NONE;
  }

  int box(int n, int what) {
    Block box = boxOrNull(n);
    if (box == null || !within(what, 0, 9)) {
      return NONE;
    }
    if (what < 6) {
      return what % 2 == 0 ? box.from[what / 2] : box.to[what / 2];
    }
    return what == 6 ? box.colour : box.sprites[what - 7];
  }

  boolean keep(int place) {
    boolean isPlace = within(place, 0, 3);
    if (isPlace) {
      kept[place] = state.copy();
    }
    return isPlace;
  }

  boolean back(int place) {
    boolean isKept = within(place, 0, 3) && kept[place] != null;
    if (isKept) {
      state = kept[place].copy();
    }
    return isKept;
  }
}
