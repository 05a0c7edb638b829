/**
 * The document from its first sentence to its last: each one that names a boundary case (too small, too
 * large, empty, full, a wrap-around, a refused call) has a run of its own, whose name tells the sentence.
 * That refused calls change nothing at all is looked at in RefusalTests.
 */
public final class EdgeTests {
  private static final Check CHECK = new Check();

  /** Calls whose arguments, where a number has no test of its own, wrap around into those of a box. */
  private static final int[] NO_BOX = {-1, 24, 32, 55, 64, -24, -32, 0x10000, 0x40000000, -0x40000000};

  public static void main(String[] args) throws ReflectiveOperationException {
    theUseOfAnObject();
    theRoom();
    theBoxes();
    boxesThatAreGone();
    noTwoShareRoom();
    coloursAndSprites();
    theInks();
    thePixels();
    theRays();
    theOutline();
    theSpots();
    whatShows();
    theOrder();
    thePlanes();
    tooMany();
    theStagesOwn();
    promises1To3();
    promises4And5();
    promise6Slide();
    promise7Drop();
    promise8Draw();
    promise9Piece();
    promise10Pixel();
    promise11Seen();
    promise12Changed();
    promise13Count();
    promise14Covers();
    promise15Tangled();
    promise16Under();
    promise17Box();
    promises18And19KeepAndBack();
    CHECK.end();
  }

  private static void theUseOfAnObject() throws ReflectiveOperationException {
    run(
        "an object is used for at most 512 calls",
        "place(0, 0,0,0, 1,1,1) = 0\n" + Calls.each(1, 255, "draw() = 1; count(6) = N") + "slide(0, 0, 32) = 31");
    run(
        "an object is used for at most 512 calls: keep and back",
        "place(0, 0,0,0, 2,2,2) = 0\n" + Calls.each(1, 255, "keep(3) = 1; back(3) = 1") + "box(0, 5) = 2");
  }

  private static void theRoom() throws ReflectiveOperationException {
    int[][] fits = {{0, 1}, {0, 32}, {31, 1}, {30, 2}, {1, 31}, {16, 16}};
    int[][] misfits = {
      {-1, 1}, {-1, 2}, {-1, 33}, {-32, 64},
      {5, 0}, {5, -1}, {5, -4}, {0, 0}, {32, 0}, {33, -1}, {32, -32},
      {31, 2}, {32, 1}, {1, 32}, {0, 33}, {16, 17}, {33, 1}
    };
    int min = Integer.MIN_VALUE;
    int max = Integer.MAX_VALUE;
    int[][] wraps = {
      {max, 1}, {max, 2}, {max, max}, {max, min}, {0, max}, {1, max}, {31, max}, {max - 30, max - 30},
      {min, 1}, {min, min}, {min, max}, {0, min}, {1, min}, {31, min}, {min, min + 8}, {min + 1, min + 1},
      {min + 32, max}, {min + 16, min + 16}, {max - 7, min + 16}, {0x40000000, 0x40000000}
    };
    for (int axis = 0; axis < 3; axis++) {
      String stays = told(0, 3, 5, 3, 5, 3, 5);
      run("0 <= the first < the second <= 32, what fits " + axis, placedAlong(axis, fits, 0));
      String first = "place(0, 3,3,3, 2,2,2) = 0\n";
      run("0 <= the first < the second <= 32, what does not " + axis, first + placedAlong(axis, misfits, 1) + stays);
      run("0 <= the first < the second <= 32, wrap-arounds " + axis, first + placedAlong(axis, wraps, 1) + stays);
      run("it can't lie so in the room, and was not there " + axis, placedAlong(axis, misfits, 1) + "count(5) = 0");
    }
    run("the room is 0 to 32", "place(0, 0,0,0, 32,32,32) = 0\n" + told(0, 0, 32, 0, 32, 0, 32));
    run("the room is 0 to 32, its far corner", "place(0, 31,31,31, 1,1,1) = 0\n" + told(0, 31, 32, 31, 32, 31, 32));
  }

  /** Box 0 is placed at the firsts, of the sizes, along the axis; along the others it goes from 3 to 5. */
  private static String placedAlong(int axis, int[][] firstsAndSizes, int want) {
    StringBuilder text = new StringBuilder();
    for (int[] firstAndSize : firstsAndSizes) {
      int[] v = {3, 3, 3, 2, 2, 2};
      v[axis] = firstAndSize[0];
      v[axis + 3] = firstAndSize[1];
      text.append(String.format("place(0, %d,%d,%d, %d,%d,%d) = %d\n", v[0], v[1], v[2], v[3], v[4], v[5], want));
    }
    return text.toString();
  }

  /** What box n is told to be: some of X0, X1, Y0, Y1, Z0, Z1, colour and sprites, from the first on. */
  private static String told(int n, int... numbers) {
    StringBuilder text = new StringBuilder("\n");
    for (int what = 0; what < numbers.length; what++) {
      text.append(String.format("box(%d, %d) = %d\n", n, what, numbers[what]));
    }
    return text.toString();
  }

  /** The same call for each number that is no box's and might be taken for one. */
  private static String forNoBox(String call) {
    StringBuilder text = new StringBuilder();
    for (int n : NO_BOX) {
      text.append(call.replaceAll("\\bN\\b", Integer.toString(n))).append('\n');
    }
    return text + call.replaceAll("\\bN\\b", "MIN") + "\n" + call.replaceAll("\\bN\\b", "MAX") + "\n";
  }

  private static void theBoxes() throws ReflectiveOperationException {
    String full = Calls.each(0, 23, "place(N, N,0,0, 1,1,1) = 0; paint(N, 3, 1,2,3) = 1");
    run(
        "a box is 0 to 23, there or not",
        full
            + forNoBox("place(N, 25,0,0, 1,1,1) = 1")
            + "count(5) = 24\n"
            + Calls.each(0, 23, "box(N, 0) = N; box(N, 6) = 3; box(N, 9) = 3")
            + Calls.each(0, 23, "lift(N) = 1; box(N, 0) = -1")
            + "count(5) = 0");
    run(
        "no such box, for the others",
        full
            + forNoBox("lift(N) = 0; paint(N, 1, 1,1,1) = 0; slide(N, 1, 5) = -1; seen(N) = 0; covers(N, 0) = -1")
            + forNoBox("covers(0, N) = -1; covers(N, N) = -1; tangled(N) = -1; box(N, 0) = -1; box(N, 6) = -1")
            + "count(5) = 24; draw() = 24; count(3) = 98; changed(3) = -1; changed(4) = 24\n"
            + forNoBox("seen(N) = 0"));
    run(
        "a full stage: each box has its own place, colour and sprites",
        Calls.each(0, 15, "place(N, 0,N,0, 1,1,32) = 0; paint(N, N, 7,6,5) = 1")
            + Calls.each(16, 23, "place(N, 31,N,0, 1,1,32) = 0; paint(N, 15, 0,0,7) = 1")
            + Calls.each(0, 15, "box(N, 2) = N; box(N, 6) = N; box(N, 7) = 7; box(N, 8) = 6; box(N, 9) = 5")
            + Calls.each(16, 23, "box(N, 2) = N; box(N, 6) = 15; box(N, 7) = 0; box(N, 9) = 7"));
  }

  private static void boxesThatAreGone() throws ReflectiveOperationException {
    run(
        "there or not: one that is gone does not fall, stands in no way, is not hit, covered, tangled or drawn",
        Scenes.RING
            + """
            place(3, 9,9,9, 2,2,2) = 0; place(4, 9,9,14, 2,2,2) = 0; place(5, 9,9,4, 2,2,2) = 0; draw() = 7
            lift(3) = 1; lift(5) = 1; lift(1) = 1; drop() = 14; count(5) = 3; box(3, 4) = -1; box(5, 4) = -1; box(4, 4) = 0
            slide(4, 2, 32) = 30; slide(4, 5, 17) = 17; box(4, 4) = 13; draw() = 3; tangled(0) = 0; seen(3) = 0
            under(0, 0, 0) = 0; under(0, 0, 1) = -1; covers(4, 3) = -1; covers(0, 1) = -1; place(23, 9,9,0, 2,2,13) = 0
            """);
    run(
        "there or not: the last one goes, and comes again",
        """
        place(23, 0,0,0, 32,32,32) = 0; place(0, 0,0,0, 1,1,1) = 186; lift(23) = 1; place(0, 0,0,0, 1,1,1) = 0
        place(23, 0,0,0, 32,32,32) = 2; lift(0) = 1; place(23, 0,0,0, 32,32,32) = 0; count(5) = 1
        """);
  }

  private static void noTwoShareRoom() throws ReflectiveOperationException {
    int[] touches = {6, 10, 14};
    int[] shares = {7, 10, 13};
    StringBuilder text = new StringBuilder("place(0, 10,10,10, 4,4,4) = 0\n");
    for (int side = 0; side < 27; side++) {
      int x = side / 9;
      int y = side / 3 % 3;
      int z = side % 3;
      int want = side == 13 ? 2 : 0;
      text.append(String.format("place(1, %d,%d,%d, 4,4,4) = %d\n", touches[x], touches[y], touches[z], want));
      text.append(String.format("place(1, %d,%d,%d, 4,4,4) = 2\n", shares[x], shares[y], shares[z]));
    }
    run("no two share room, they may touch: sides, edges and corners", text.toString());
    run(
        "no two share room: one in the other, one around the other, one through the other",
        """
        place(0, 10,10,10, 4,4,4) = 0; place(1, 11,11,11, 1,1,1) = 2; place(1, 9,9,9, 6,6,6) = 2
        place(1, 0,0,0, 32,32,32) = 2; place(1, 0,11,11, 32,1,1) = 2; place(1, 11,0,11, 1,32,1) = 2
        place(1, 11,11,0, 1,1,32) = 2; place(1, 0,0,13, 32,32,1) = 2; place(1, 0,0,14, 32,32,1) = 0
        place(1, 0,0,9, 32,32,1) = 0; count(5) = 2
        """);
    run(
        "the lowest box with which it would share room, another one",
        """
        place(23, 0,0,0, 4,4,4) = 0; place(22, 4,0,0, 4,4,4) = 0; place(7, 8,0,0, 4,4,4) = 0
        place(0, 0,0,0, 1,1,1) = 186; place(0, 3,0,0, 2,1,1) = 178; place(0, 0,0,0, 32,1,1) = 58
        place(23, 3,0,0, 2,1,1) = 178; place(7, 3,0,0, 6,1,1) = 178; place(22, 0,0,0, 12,1,1) = 58
        place(7, 8,0,0, 2,2,2) = 0; place(22, 4,0,0, 4,4,5) = 0; box(7, 1) = 10; box(22, 5) = 5; count(5) = 3
        """);
  }

  private static void coloursAndSprites() throws ReflectiveOperationException {
    run(
        "a colour (0 to 15), a sprite (0 to 7)",
        "place(0, 0,0,0, 1,1,1) = 0\n"
            + Calls.each(0, 15, "paint(0, N, 0,0,0) = 1; box(0, 6) = N")
            + Calls.each(0, 7, "paint(0, 15, N,0,7) = 1; box(0, 7) = N; paint(0, 15, 0,N,7) = 1; box(0, 8) = N")
            + Calls.each(0, 7, "paint(0, 15, 7,0,N) = 1; box(0, 9) = N; box(0, 7) = 7; box(0, 8) = 0"));
    run(
        "a colour and sprites that can't be",
        "place(0, 0,0,0, 1,1,1) = 0; paint(0, 9, 7,6,5) = 1\n"
            + """
            paint(0, -1, 1,1,1) = 0; paint(0, 16, 1,1,1) = 0; paint(0, MIN, 1,1,1) = 0; paint(0, MAX, 1,1,1) = 0
            paint(0, 1, -1,1,1) = 0; paint(0, 1, 8,1,1) = 0; paint(0, 1, MIN,1,1) = 0; paint(0, 1, MAX,1,1) = 0
            paint(0, 1, 1,-1,1) = 0; paint(0, 1, 1,8,1) = 0; paint(0, 1, 1,MIN,1) = 0; paint(0, 1, 1,MAX,1) = 0
            paint(0, 1, 1,1,-1) = 0; paint(0, 1, 1,1,8) = 0; paint(0, 1, 1,1,MIN) = 0; paint(0, 1, 1,1,MAX) = 0
            paint(0, 256, 1,1,1) = 0; paint(0, 1, 256,1,1) = 0; paint(0, 1, 1,-8,1) = 0; paint(0, 1, 1,1,64) = 0
            """
            + told(0, 0, 1, 0, 1, 0, 1, 9, 7, 6, 5));
  }

  private static void theInks() throws ReflectiveOperationException {
    run(
        "a sprite has 8 rows of 8 inks, all 1 at first",
        "place(0, 0,0,0, 8,8,8) = 0; draw() = 1; count(3) = 384; pixel(0, 0, 2) = 16\n"
            + Calls.each(1, 7, "paint(0, 0, N,N,N) = 1; draw() = 1; changed(0) = 0")
            + Calls.each(0, 7, "ink(7, N, 0x5555) = 1; draw() = 1; changed(0) = 0; ink(7, N, 0x5555) = 1")
            + Calls.each(0, 7, "paint(0, 0, N,N,N) = 1; draw() = 1; changed(0) = 0; count(3) = 384; count(4) = 384"));
    run(
        "ink 0 is a hole, 1 to 3 are none",
        "place(0, 0,0,0, 1,1,1) = 0\n"
            + "ink(0, 0, 0) = 1; draw() = 1; pixel(0, 0, 0) = -1; pixel(0, 0, 2) = -1; pixel(0, 0, 3) = 0\n"
            + Calls.each(1, 3, "ink(0, 0, N) = 1; draw() = 1; pixel(0, 0, 0) = 0; pixel(0, 0, 3) = 1; count(3) = 6")
            + "pixel(0, 0, 2) = 48; paint(0, 15, 0,0,0) = 1; draw() = 1; pixel(0, 0, 2) = 63");
    StringBuilder places = new StringBuilder("place(0, 0,0,0, 8,8,8) = 0; paint(0, 0, 7,7,7) = 1\n");
    for (int place = 0; place < 8; place++) {
      places.append(String.format("ink(7, 7, %d) = 1; draw() = 1\n", 3 << 2 * place));
      for (int i = 0; i < 8; i++) {
        // On face 0 the spot is y 7.5 - i, z 7.75 there.
        places.append(String.format("pixel(%d, %d, 2) = %d\n", i, -i, 7 - i == place ? 48 : -1));
      }
    }
    run("two bits each, place 0 the lowest two", places.toString());
    run(
        "word's sixteen lowest bits",
        """
        place(0, 0,0,0, 1,1,1) = 0
        ink(0, 0, 0xFFFF0000) = 1; draw() = 1; count(3) = 0; ink(0, 0, MIN) = 1; draw() = 1; count(3) = 0
        ink(0, 0, 0x10000) = 1; draw() = 1; count(3) = 0; ink(0, 0, 0xFFFC) = 1; draw() = 1; count(3) = 0
        ink(0, 0, MAX) = 1; draw() = 1; pixel(0, 0, 2) = 48; ink(0, 0, -1) = 1; draw() = 1; pixel(0, 0, 2) = 48
        ink(0, 0, 0xFFFF0001) = 1; draw() = 1; pixel(0, 0, 2) = 16; ink(0, 0, -2) = 1; draw() = 1; pixel(0, 0, 2) = 32
        place(0, 7,7,7, 1,1,1) = 0; ink(0, 7, 0x3FFF) = 1; draw() = 1; count(3) = 0
        ink(0, 7, 0xFFFFC000) = 1; draw() = 1; count(3) = 6; pixel(0, 0, 2) = 48
        """);
    run(
        "no such row, sprite",
        "place(0, 0,0,0, 8,8,8) = 0; place(1, 8,0,0, 8,8,8) = 0; place(2, 16,0,0, 8,8,8) = 0; draw() = 3\n"
            + "paint(0, 0, 0,1,2) = 1; paint(1, 0, 3,4,5) = 1; paint(2, 0, 6,7,6) = 1; draw() = 3; changed(0) = 0\n"
            + """
            ink(-1, 0, 0) = 0; ink(8, 0, 0) = 0; ink(0, -1, 0) = 0; ink(0, 8, 0) = 0; ink(7, 8, 0) = 0; ink(1, -1, 0) = 0
            ink(-1, 8, 0) = 0; ink(8, -8, 0) = 0; ink(MIN, 0, 0) = 0; ink(MAX, 0, 0) = 0; ink(0, MIN, 0) = 0
            ink(0, MAX, 0) = 0; ink(0x20000000, 1, 0) = 0; ink(-0x20000000, 2, 0) = 0; ink(0x40000000, 3, 0) = 0
            draw() = 3; changed(0) = 0; count(3) = 896
            """);
  }

  private static void thePixels() throws ReflectiveOperationException {
    String full = "place(0, 0,0,0, 32,32,32) = 0; draw() = 1\n";
    run(
        "i from -32 to 31, j from -64 to 63",
        full
            + """
            pixel(-32, 0, 0) = 0; pixel(31, 0, 0) = 0; pixel(0, -63, 0) = 0; pixel(0, 63, 0) = 0
            pixel(-32, -64, 3) = 0; pixel(-32, 63, 3) = 0; pixel(31, -64, 3) = 0; pixel(31, 63, 3) = 0
            pixel(0, -64, 3) = 0; pixel(-1, -64, 3) = 0; pixel(-1, 63, 3) = 1; pixel(-1, -63, 3) = 1
            under(-32, 0, 0) = 0; under(31, 0, 0) = 0; under(0, -63, 0) = 0; under(0, 63, 0) = 0
            under(-32, -64, 0) = -1; under(-32, 63, 0) = -1; under(31, -64, 0) = -1; under(31, 63, 0) = -1
            """);
    int[][] none = {
      {-33, 0}, {32, 0}, {0, -65}, {0, 64}, {-33, 127}, {32, -128}, {31, 128}, {-32, -192}, {-1, 128}, {1, -128},
      {0x2000000, 0}, {-0x2000000, 0}, {0x40000000, 0}, {-0x40000000, 0}, {0, 0x40000000}, {0, -0x40000000},
      {Integer.MIN_VALUE, 0}, {0, Integer.MIN_VALUE}, {Integer.MAX_VALUE, 0}, {0, Integer.MAX_VALUE},
      {Integer.MIN_VALUE, Integer.MIN_VALUE}, {Integer.MAX_VALUE, Integer.MAX_VALUE},
      {Integer.MIN_VALUE, Integer.MAX_VALUE}, {0x60000000, 0x20000000}, {0x1FFFFFF, 128}, {0x2000001, -128},
      {Integer.MIN_VALUE + 32, 0}, {Integer.MAX_VALUE - 31, 0}, {0, Integer.MAX_VALUE - 63}, {0, Integer.MIN_VALUE + 64}
    };
    StringBuilder text = new StringBuilder(full);
    for (int[] ij : none) {
      for (int what = 0; what < 4; what++) {
        text.append(String.format("pixel(%d, %d, %d) = -1; ", ij[0], ij[1], what));
      }
      text.append(String.format("under(%d, %d, 0) = -1\n", ij[0], ij[1]));
    }
    run("no such pixel", text.toString());
  }

  private static void theRays() throws ReflectiveOperationException {
    for (int corner = 0; corner < 8; corner++) {
      int x = 31 * (corner / 4);
      int y = 31 * (corner / 2 % 2);
      int z = 31 * (corner % 2);
      int i = x - y;
      int j = x + y - 2 * z;
      String text =
          """
          place(0, @x,@y,@z, 1,1,1) = 0; draw() = 1; count(3) = 6; changed(0) = 6
          changed(1) = @h; changed(2) = @i; changed(3) = @k; changed(4) = @l
          pixel(@i, @k, 1) = 2; pixel(@i, @j, 1) = 0; pixel(@i, @l, 1) = 0
          pixel(@h, @k, 1) = 2; pixel(@h, @j, 1) = 1; pixel(@h, @l, 1) = 1
          under(@i, @j, 0) = 0; under(@h, @l, 0) = 0; under(@i, @k, 1) = -1
          """;
      text = text.replace("@x", "" + x).replace("@y", "" + y).replace("@z", "" + z);
      text = text.replace("@h", "" + (i - 1)).replace("@i", "" + i);
      text = text.replace("@k", "" + (j - 1)).replace("@j", "" + j).replace("@l", "" + (j + 1));
      run("a box is hit, in the corners of the room: " + x + " " + y + " " + z, text);
    }
    run(
        "the exit is the least, its face 0, 1 or 2: where the faces meet",
        """
        place(0, 0,0,0, 32,32,32) = 0; draw() = 1
        pixel(0, 0, 1) = 0; pixel(-1, 0, 1) = 1; pixel(0, -1, 1) = 2; pixel(-1, -1, 1) = 2
        pixel(5, -5, 1) = 0; pixel(5, -6, 1) = 2; pixel(-6, -5, 1) = 1; pixel(-6, -6, 1) = 2
        pixel(0, 63, 1) = 0; pixel(-1, 63, 1) = 1; pixel(31, -31, 1) = 0; pixel(31, -32, 1) = 2
        pixel(-32, -31, 1) = 1; pixel(-32, -32, 1) = 2; pixel(31, 32, 1) = 0; pixel(31, 33, 1) = -1
        pixel(31, -33, 1) = -1; pixel(-32, 32, 1) = 1; pixel(-32, 33, 1) = -1; pixel(-32, -33, 1) = -1
        """);
    run(
        "outlines that touch have no pixel in common",
        """
        place(0, 0,0,0, 1,1,1) = 0; place(1, 1,0,1, 1,1,1) = 0; covers(1, 0) = 2; covers(0, 1) = 0
        place(1, 2,1,1, 1,1,1) = 0; covers(1, 0) = 2; place(1, 2,0,0, 1,1,1) = 0; covers(1, 0) = 0; covers(0, 1) = 0
        place(1, 0,2,0, 1,1,1) = 0; covers(1, 0) = 0; place(1, 0,0,2, 1,1,1) = 0; covers(1, 0) = 0
        place(1, 1,0,0, 1,1,1) = 0; covers(1, 0) = 2; place(1, 0,1,0, 1,1,1) = 0; covers(1, 0) = 2
        place(1, 0,0,1, 1,1,1) = 0; covers(1, 0) = 2; place(1, 31,31,31, 1,1,1) = 0; covers(1, 0) = 6
        """);
  }

  /** Each pixel on and around the outline of a box, against the document's "for some t". */
  private static void theOutline() throws ReflectiveOperationException {
    int[][] blocks = {{20, 24, 3, 9, 7, 9}, {0, 3, 29, 32, 0, 2}, {30, 32, 28, 32, 31, 32}, {5, 6, 5, 6, 0, 8}};
    for (int[] b : blocks) {
      StringBuilder text = new StringBuilder(String.format("place(0, %d,%d,%d, ", b[0], b[2], b[4]));
      text.append(String.format("%d,%d,%d) = 0; draw() = 1\n", b[1] - b[0], b[3] - b[2], b[5] - b[4]));
      int hits = 0;
      for (int i = Math.max(-32, b[0] - b[3] - 1); i <= Math.min(31, b[1] - b[2]); i++) {
        for (int j = Math.max(-64, b[0] + b[2] - 2 * b[5] - 1); j <= Math.min(63, b[1] + b[3] - 2 * b[4] + 1); j++) {
          boolean isHit = isHit(b, i, j);
          hits += isHit ? 1 : 0;
          text.append(String.format("under(%d, %d, 0) = %d\n", i, j, isHit ? 0 : -1));
        }
      }
      run("a box is hit if for some t", text + "count(3) = " + hits);
    }
  }

  /** With t in eighths, as all bounds of t lie on quarters and leave an eighth between them. */
  private static boolean isHit(int[] b, int i, int j) {
    for (int t = 8 * b[4] + 1; t < 8 * b[5]; t++) {
      int x = t + 2 * (2 * j + 2 * i + 1);
      int y = t + 2 * (2 * j - 2 * i - 1);
      if (8 * b[0] < x && x < 8 * b[1] && 8 * b[2] < y && y < 8 * b[3]) {
        return true;
      }
    }
    return false;
  }

  private static void theSpots() throws ReflectiveOperationException {
    run(
        "each cut downwards to a whole one and modulo 8: rows of z",
        """
        place(0, 0,0,0, 32,32,32) = 0; ink(0, 7, 0xAAAA) = 1; ink(0, 0, 0xFFFF) = 1; draw() = 1
        pixel(0, 0, 2) = 32; pixel(0, 1, 2) = 32        # z 31.75 and 31.25
        pixel(0, 2, 2) = 16; pixel(0, 47, 2) = 48       # z 30.75, z 8.25
        pixel(0, 48, 2) = 32; pixel(0, 49, 2) = 32; pixel(0, 50, 2) = 16
        pixel(0, 61, 2) = 16; pixel(0, 62, 2) = 48; pixel(0, 63, 2) = 48
        pixel(-1, 0, 2) = 32; pixel(-1, 47, 2) = 48; pixel(-1, 48, 2) = 32; pixel(-1, 63, 2) = 48
        """);
    run(
        "each cut downwards to a whole one and modulo 8: places of x and y, rows of y",
        """
        place(0, 0,0,0, 32,32,32) = 0; paint(0, 0, 1,1,2) = 1
        """
            + Calls.each(0, 7, "ink(1, N, 0x9557) = 1; ink(2, N, 0x9557) = 1")
            + """
            ink(2, 7, 0x5555) = 1; draw() = 1
            pixel(0, 0, 2) = 32; pixel(1, 0, 2) = 16; pixel(7, 0, 2) = 48; pixel(8, 0, 2) = 32; pixel(31, 0, 2) = 48
            pixel(-1, 0, 2) = 32; pixel(-2, 0, 2) = 16; pixel(-8, 0, 2) = 48; pixel(-9, 0, 2) = 32; pixel(-32, 0, 2) = 48
            pixel(0, -1, 2) = 16; pixel(1, -2, 2) = 32      # y 31.25; x 31.75, y 30.25
            pixel(0, -63, 2) = 48; pixel(0, -62, 2) = 16    # x 0.75, y 0.25; x 1.25, y 0.75
            """);
  }

  private static void whatShows() throws ReflectiveOperationException {
    run(
        "the picture has at each pixel the nearest one, or none: all boxes with nothing but holes",
        Scenes.DIAGONAL
            + Calls.each(0, 7, "ink(0, N, 0) = 1")
            + """
            draw() = 24; count(0) = 24; count(3) = 0; count(4) = 0; changed(0) = 0; changed(1) = 100
            pixel(0, 0, 0) = -1; pixel(0, 0, 1) = -1; pixel(0, 0, 2) = -1; pixel(0, 0, 3) = 0; under(0, 0, 23) = 0
            covers(23, 0) = 6
            """
            + Calls.each(0, 23, "seen(N) = 0"));
    run(
        "the picture has the nearest one that shows, behind 23 others with holes",
        Scenes.DIAGONAL
            + Calls.each(0, 7, "ink(7, N, 0) = 1")
            + Calls.each(1, 23, "paint(N, 2, 7,7,7) = 1")
            + "paint(0, 9, 0,0,0) = 1; draw() = 24; count(3) = 6; count(4) = 6; seen(0) = 6; pixel(0, 0, 2) = 25\n"
            + "pixel(0, 0, 0) = 0; pixel(-1, 1, 0) = 0; pixel(0, 0, 3) = 1; paint(23, 15, 7,7,0) = 1; draw() = 24\n"
            + "seen(0) = 4; seen(23) = 2; count(4) = 8; changed(0) = 2; pixel(0, -1, 0) = 23; pixel(0, -1, 2) = 31");
  }

  private static void theOrder() throws ReflectiveOperationException {
    run("no boxes, no pieces", "draw() = 0; piece(0, 0) = -1; piece(0, 1) = -1; count(0) = 0; count(6) = 1");
    run(
        "a box is its first piece, with its number",
        """
        place(23, 0,0,0, 1,1,1) = 0; draw() = 1; piece(0, 0) = 23; piece(0, 1) = 23; place(0, 31,0,0, 1,1,1) = 0
        draw() = 2; piece(0, 0) = 0; piece(0, 1) = 0; piece(1, 0) = 23; piece(1, 1) = 23; piece(2, 0) = -1
        """);
    StringBuilder apart = new StringBuilder();
    StringBuilder behind = new StringBuilder();
    for (int n = 23; n >= 0; n--) {
      apart.append(String.format("place(%d, %d,%d,0, 1,1,1) = 0\n", n, n, 24 - n));
      behind.append(String.format("place(%d, %d,%d,%d, 1,1,1) = 0\n", n, 31 - n, 31 - n, 31 - n));
    }
    run("the lowest number first: 24 that cover none", apart + "draw() = 24\n" + Calls.each(0, 23, "piece(N, 1) = N"));
    for (int k = 0; k < 24; k++) {
      behind.append(k == 0 ? "draw() = 24\n" : "").append(String.format("piece(%d, 1) = %d\n", k, 23 - k));
    }
    run("it covers none that was not drawn: 24 in a row", behind + "piece(24, 1) = -1; seen(0) = 6; count(4) = 144");
  }

  private static void thePlanes() throws ReflectiveOperationException {
    run(
        "between its own begin and end (neither of these): box 0 has no plane, box 1 is cut",
        """
        place(0, 3,1,0, 1,2,1) = 0; place(1, 1,1,1, 1,3,3) = 0; place(2, 1,3,0, 3,1,1) = 0; place(3, 2,0,0, 1,3,3) = 0
        tangled(0) = 4; tangled(1) = 4; draw() = 5; count(1) = 1; count(2) = 1
        piece(0, 1) = 1; piece(1, 1) = 3; piece(2, 1) = 0; piece(3, 1) = 2; piece(4, 1) = 24
        piece(0, 4) = 1; piece(0, 5) = 3; piece(4, 0) = 1; piece(4, 4) = 3; piece(4, 5) = 4
        """);
    run(
        "what lies below keeps its number, what lies above has the next one (24 on)",
        Scenes.RING
            + """
            place(21, 11,0,0, 1,1,2) = 0; place(22, 10,0,1, 1,2,1) = 0; place(23, 10,1,0, 2,1,1) = 0
            tangled(0) = 3; tangled(23) = 3; draw() = 8; count(1) = 2; count(2) = 2
            piece(0, 1) = 0; piece(1, 1) = 2; piece(2, 1) = 1; piece(3, 1) = 24
            piece(4, 1) = 21; piece(5, 1) = 23; piece(6, 1) = 22; piece(7, 1) = 25
            piece(0, 6) = 0; piece(0, 7) = 1; piece(3, 0) = 0; piece(3, 6) = 1; piece(3, 7) = 2
            piece(4, 6) = 0; piece(4, 7) = 1; piece(7, 0) = 21; piece(7, 6) = 1; piece(7, 7) = 2
            """);
    run(
        "the first one: a place at which box 0 ends",
        """
        place(0, 2,2,1, 1,1,1) = 0; place(1, 0,4,0, 3,1,4) = 0; place(2, 2,1,1, 3,1,4) = 0; place(3, 1,2,2, 4,1,1) = 0
        place(4, 0,0,3, 2,4,1) = 0; draw() = 8; count(1) = 3
        piece(0, 1) = 2; piece(1, 1) = 0; piece(2, 1) = 3; piece(3, 1) = 4; piece(4, 1) = 1; piece(5, 1) = 25
        piece(6, 1) = 24; piece(7, 1) = 26
        """);
    run(
        "tangled: all of these not drawn, and as they are after the latest cut",
        """
        place(0, 7,1,3, 2,11,1) = 0; place(1, 0,9,9, 12,1,1) = 0; place(2, 2,4,3, 3,6,2) = 0; place(3, 0,1,2, 1,4,1) = 0
        place(4, 5,6,0, 1,1,9) = 0; place(5, 5,9,3, 1,3,2) = 0; place(6, 8,12,1, 2,1,12) = 0; place(7, 0,7,1, 13,1,2) = 0
        place(8, 5,5,5, 7,1,1) = 0; draw() = 16; piece(0, 1) = 3; piece(1, 1) = 0; piece(2, 1) = 2; piece(3, 1) = 4
        piece(4, 1) = 7; piece(5, 1) = 25; piece(6, 1) = 8; piece(7, 1) = 26; piece(8, 1) = 27; piece(9, 1) = 24
        piece(10, 1) = 28; piece(11, 1) = 29; piece(12, 1) = 5; piece(13, 1) = 30; piece(14, 1) = 1; piece(15, 1) = 6
        """);
    run(
        "boxes that are in no ring are not cut, though a tangled one's planes go through them",
        Scenes.RING
            + "place(3, 2,0,0, 1,2,2) = 0; tangled(3) = 0; draw() = 5; count(2) = 1; piece(4, 1) = 3; piece(4, 7) = 2");
  }

  private static void tooMany() throws ReflectiveOperationException {
    run(
        "more than 96 pieces: too many. 96 are not",
        Scenes.FULL_OF_96
            + "count(5) = 24; draw() = 96; count(0) = 96; count(1) = 72; count(2) = 23; count(6) = 1\n"
            + "piece(95, 0) = 5; piece(95, 1) = 93; piece(96, 0) = -1; changed(0) = 475\n"
            + Calls.each(0, 95, "piece(N, 8) = -1")
            + Calls.each(0, 23, "tangled(N) = 24"));
    run(
        "more than 96 pieces: 97, and nothing was drawn ahead of it",
        Scenes.FULL_OF_97
            + "draw() = -1\n"
            + Calls.each(0, 4, "count(N) = 0")
            + "count(5) = 24; count(6) = 0; piece(0, 0) = -1; piece(95, 0) = -1; piece(96, 0) = -1; pixel(0, 0, 3) = -1\n"
            + "changed(0) = 0; changed(1) = 100; changed(4) = 100\n"
            + Calls.each(0, 23, "seen(N) = 0")
            + "draw() = -1; count(6) = 0; lift(6) = 1; draw() = 96; count(0) = 96; count(1) = 73; count(6) = 1");
    run(
        "too many: the drawing ahead of it stays, and is the one that the next is compared with",
        Scenes.FULL_OF_97
            + """
            lift(6) = 1; draw() = 96; seen(0) = 28; changed(0) = 447; count(3) = 447; count(4) = 1112
            paint(0, 5, 0,0,0) = 1; place(6, 0,9,0, 1,1,10) = 0; draw() = -1
            count(0) = 96; count(1) = 73; count(3) = 447; count(4) = 1112; count(5) = 24; count(6) = 1; seen(6) = 0
            seen(0) = 28; changed(0) = 447; piece(95, 0) = 5; piece(96, 0) = -1
            lift(6) = 1; draw() = 96; changed(0) = 28; count(6) = 2
            place(6, 0,9,0, 1,1,10) = 0; draw() = -1; draw() = -1; changed(0) = 28; count(6) = 2; draw() = -1
            """
            + Calls.each(0, 23, "lift(N) = 1")
            + "draw() = 0; changed(0) = 447; count(0) = 0; count(6) = 3; seen(0) = 0");
  }

  /** "All memory is the stage's own": what one stage is told, another one does not know. */
  private static void theStagesOwn() throws ReflectiveOperationException {
    BoxStage one = new BoxStage();
    BoxStage other = new BoxStage();
    CHECK.due("place on one", one.place(0, 0, 0, 0, 1, 1, 1), 0);
    CHECK.due("ink on one", one.ink(0, 0, 2), true);
    CHECK.due("keep on one", one.keep(0), true);
    CHECK.due("draw on one", one.draw(), 1);
    CHECK.due("boxes of the other", other.count(5), 0);
    CHECK.due("drawings of the other", other.count(6), 0);
    CHECK.due("what the other kept", other.back(0), false);
    CHECK.due("pixel of the other", other.pixel(0, 0, 3), BoxStage.NONE);
    CHECK.due("place on the other", other.place(0, 0, 0, 0, 1, 1, 1), 0);
    CHECK.due("draw on the other", other.draw(), 1);
    CHECK.due("ink of the other", other.pixel(0, 0, 2), 16);
    CHECK.due("ink of the one", one.pixel(0, 0, 2), 32);
    CHECK.due("lift on the other", other.lift(0), true);
    CHECK.due("box of the one", one.box(0, 1), 1);
  }

  private static void promises1To3() throws ReflectiveOperationException {
    run(
        "1 no boxes, nothing was drawn",
        Calls.each(0, 23, "box(N, 0) = -1; box(N, 6) = -1; lift(N) = 0; seen(N) = 0; tangled(N) = -1; slide(N, 0, 1) = -1")
            + Calls.each(0, 23, "paint(N, 0, 0,0,0) = 0; covers(N, 0) = -1")
            + Calls.each(0, 7, "piece(0, N) = -1; pixel(0, 0, N) = -1; under(0, 0, N) = -1")
            + Calls.each(0, 6, "count(N) = 0")
            + Calls.each(1, 4, "changed(N) = 100")
            + Calls.each(0, 3, "back(N) = 0")
            + "changed(0) = 0; drop() = 0; draw() = 0");
    run(
        "2 if it was there the same colour and sprites, else 0",
        """
        place(0, 0,0,0, 1,1,1) = 0; paint(0, 15, 7,6,5) = 1; place(0, 5,5,5, 3,2,1) = 0
        """
            + told(0, 5, 8, 5, 7, 5, 6, 15, 7, 6, 5)
            + "place(0, 0,0,0, 0,1,1) = 1; place(1, 0,0,0, 1,1,1) = 0; place(0, 0,0,0, 1,1,1) = 10\n"
            + told(0, 5, 8, 5, 7, 5, 6, 15, 7, 6, 5)
            + "lift(0) = 1; place(0, 0,0,0, 1,1,1) = 10; box(0, 6) = -1; place(0, 1,0,0, 1,1,1) = 0\n"
            + told(0, 1, 2, 0, 1, 0, 1, 0, 0, 0, 0));
    run(
        "3 it was not there",
        """
        lift(0) = 0; place(0, 0,0,0, 1,1,1) = 0; lift(1) = 0; lift(23) = 0; lift(0) = 1; lift(0) = 0
        place(23, 0,0,0, 1,1,1) = 0; lift(23) = 1; lift(23) = 0; count(5) = 0
        """);
  }

  private static void promises4And5() throws ReflectiveOperationException {
    run(
        "4 it isn't there",
        "paint(0, 1, 1,1,1) = 0; place(0, 0,0,0, 1,1,1) = 0; box(0, 6) = 0; box(0, 7) = 0; paint(0, 1, 2,3,4) = 1\n"
            + "lift(0) = 1; paint(0, 5, 5,5,5) = 0; place(0, 0,0,0, 1,1,1) = 0\n"
            + told(0, 0, 1, 0, 1, 0, 1, 0, 0, 0, 0));
    run(
        "5 each row of each sprite is its own",
        "place(0, 0,0,0, 8,8,8) = 0; draw() = 1\n"
            + Calls.each(0, 7, "ink(N, N, 0) = 1; paint(0, 0, N,N,N) = 1; draw() = 1")
            + "pixel(0, 0, 0) = -1; pixel(0, 1, 0) = -1; pixel(0, 2, 0) = 0; pixel(0, 15, 0) = 0; pixel(0, -1, 0) = -1\n"
            + "paint(0, 0, 0,0,0) = 1; draw() = 1; pixel(0, 0, 0) = 0; pixel(0, 13, 0) = 0; pixel(0, 14, 0) = -1\n"
            + "pixel(0, 15, 0) = -1; pixel(0, -15, 0) = -1; paint(0, 0, 3,3,3) = 1; draw() = 1; count(3) = 336");
  }

  private static void promise6Slide() throws ReflectiveOperationException {
    run(
        "6 up to most places (0 to 32)",
        "place(0, 0,0,0, 1,1,1) = 0\n"
            + Calls.each(0, 2, "slide(0, N, 0) = 0; slide(0, N, 1) = 1; slide(0, N, 29) = 29; slide(0, N, 32) = 1")
            + told(0, 31, 32, 31, 32, 31, 32)
            + Calls.each(0, 2, "slide(0, N, 1) = 0; slide(0, N, 32) = 0")
            + Calls.each(3, 5, "slide(0, N, 0) = 0; slide(0, N, 31) = 31; slide(0, N, 32) = 0; slide(0, N, 1) = 0")
            + told(0, 0, 1, 0, 1, 0, 1));
    run(
        "6 no such axis, most",
        "place(0, 9,9,9, 1,1,1) = 0\n"
            + Calls.each(0, 5, "slide(0, N, -1) = -1; slide(0, N, 33) = -1; slide(0, N, MIN) = -1; slide(0, N, MAX) = -1")
            + "slide(0, -1, 1) = -1; slide(0, 6, 1) = -1; slide(0, MIN, 1) = -1; slide(0, MAX, 1) = -1\n"
            + "slide(0, -3, 0) = -1; slide(0, 6, 0) = -1; slide(0, 2147483645, 5) = -1; slide(0, -2147483645, 5) = -1\n"
            + "slide(0, 0, 256) = -1; slide(0, 1, -32) = -1; slide(1, 0, 0) = -1; slide(23, 5, 32) = -1\n"
            + told(0, 9, 10, 9, 10, 9, 10));
    run(
        "6 a box that fills the room goes nowhere",
        "place(0, 0,0,0, 32,32,32) = 0\n" + Calls.each(0, 5, "slide(0, N, 32) = 0; slide(0, N, 0) = 0"));
    run(
        "6 as long as it shares room with none: shut in by walls, then along them",
        """
        place(0, 10,10,10, 2,2,2) = 0; place(1, 12,0,0, 1,32,32) = 0; place(2, 9,0,0, 1,32,32) = 0
        place(3, 10,12,0, 2,1,32) = 0; place(4, 10,9,0, 2,1,32) = 0; place(5, 10,10,12, 2,2,1) = 0
        place(6, 10,10,9, 2,2,1) = 0
        """
            + Calls.each(0, 5, "slide(0, N, 32) = 0; slide(0, N, 1) = 0")
            + "lift(5) = 1; slide(0, 2, 32) = 20; slide(0, 5, 32) = 20; lift(1) = 1; slide(0, 0, 32) = 20\n"
            + "slide(0, 3, 32) = 20; box(0, 0) = 10");
    run(
        "6 place by place: it does not leap over a thin one",
        """
        place(0, 0,0,0, 1,1,1) = 0; place(1, 16,0,0, 1,1,1) = 0; slide(0, 0, 32) = 15; slide(0, 0, 32) = 0
        slide(1, 0, 32) = 15; slide(0, 0, 10) = 10; slide(0, 0, 32) = 5; slide(1, 3, 32) = 0; box(0, 0) = 30
        """);
  }

  private static void promise7Drop() throws ReflectiveOperationException {
    run("7 no boxes", "drop() = 0; count(5) = 0; drop() = 0");
    run("7 all on the floor", Calls.each(0, 23, "place(N, N,0,0, 1,1,32) = 0") + "drop() = 0; box(23, 4) = 0");
    run(
        "7 a full stage, from the ceiling to the floor",
        Calls.each(0, 23, "place(N, N,3,31, 1,1,1) = 0")
            + "drop() = 744\n"
            + Calls.each(0, 23, "box(N, 4) = 0; box(N, 5) = 1; box(N, 0) = N; box(N, 2) = 3")
            + "drop() = 0");
    StringBuilder piled = new StringBuilder();
    StringBuilder fallen = new StringBuilder();
    for (int n = 0; n < 24; n++) {
      piled.append(String.format("place(%d, 5,5,%d, 1,1,1) = 0\n", n, 31 - n));
      fallen.append(String.format("box(%d, 4) = %d\n", n, 23 - n));
    }
    run("7 by its Z0 as it is ahead of all: a pile whose lowest has the last number", piled + "drop() = 192\n" + fallen);
    run(
        "7 as far as it can: it rests on a corner, not on what it touches at a side",
        """
        place(0, 10,10,0, 4,4,4) = 0; place(1, 13,13,20, 4,4,4) = 0; place(2, 14,8,20, 2,2,2) = 0
        place(3, 6,14,9, 4,4,1) = 0; drop() = 45
        box(1, 4) = 4; box(2, 4) = 0; box(3, 4) = 0; box(0, 4) = 0
        """);
  }

  private static void promise8Draw() throws ReflectiveOperationException {
    run("8 how many pieces there are: 0 and 24", "draw() = 0\n" + Scenes.DIAGONAL + "draw() = 24; count(0) = 24");
    run(
        "8 what is told of a drawing stays, whatever becomes of boxes and sprites",
        Scenes.RING
            + "keep(0) = 1; draw() = 4\n"
            + Calls.each(0, 7, "ink(0, N, 0) = 1")
            + "lift(0) = 1; place(1, 9,9,9, 5,5,5) = 0; paint(2, 7, 3,3,3) = 1; slide(2, 0, 9) = 9; drop() = 9\n"
            + "keep(1) = 1; tangled(1) = 0; under(0, 0, 0) = -1; covers(1, 2) = 0; back(1) = 1\n"
            + """
            piece(0, 0) = 0; piece(0, 7) = 1; piece(3, 1) = 24; piece(3, 6) = 1; piece(2, 0) = 1; piece(2, 3) = 1
            pixel(0, 0, 0) = 0; pixel(0, 0, 2) = 16; seen(0) = 8; seen(1) = 8; seen(2) = 8; changed(0) = 24; changed(4) = 3
            count(0) = 4; count(1) = 1; count(2) = 1; count(3) = 24; count(4) = 32; count(5) = 2; count(6) = 1
            """);
  }

  private static void promise9Piece() throws ReflectiveOperationException {
    run(
        "9 none if there is none such",
        "piece(0, 0) = -1; draw() = 0; piece(0, 0) = -1; piece(-1, 0) = -1\n"
            + Scenes.DIAGONAL
            + "piece(0, 0) = -1; draw() = 24; piece(0, 0) = 0; piece(23, 0) = 23; piece(24, 0) = -1; piece(-1, 0) = -1\n"
            + "piece(95, 0) = -1; piece(96, 0) = -1; piece(MIN, 0) = -1; piece(MAX, 0) = -1; piece(32, 0) = -1\n"
            + "piece(23, 2) = 23; piece(23, 3) = 24; piece(23, 6) = 23; piece(23, 7) = 24\n"
            + Calls.each(0, 23, "piece(N, -1) = -1; piece(N, 8) = -1; piece(N, 14) = -1; piece(N, MIN) = -1")
            + Calls.each(0, 23, "piece(N, MAX) = -1")
            + "piece(1, -5) = -1; piece(24, 8) = -1; piece(-1, -1) = -1; piece(0, -2147483647) = -1; piece(0, 256) = -1");
  }

  private static void promise10Pixel() throws ReflectiveOperationException {
    run(
        "10 no such what, nothing was drawn, no box",
        """
        place(0, 0,0,0, 1,1,1) = 0; pixel(0, 0, 0) = -1; pixel(0, 0, 1) = -1; pixel(0, 0, 2) = -1; pixel(0, 0, 3) = -1
        draw() = 1; pixel(0, 0, 0) = 0; pixel(0, 0, 1) = 0; pixel(0, 0, 2) = 16; pixel(0, 0, 3) = 1
        pixel(0, 0, -1) = -1; pixel(0, 0, 4) = -1; pixel(0, 0, MIN) = -1; pixel(0, 0, MAX) = -1; pixel(0, 0, 256) = -1
        pixel(5, 0, 0) = -1; pixel(5, 0, 1) = -1; pixel(5, 0, 2) = -1; pixel(5, 0, 3) = 0
        pixel(5, 0, -1) = -1; pixel(5, 0, 4) = -1; pixel(5, 0, MIN) = -1; pixel(5, 0, MAX) = -1
        """);
    run(
        "10 nothing was drawn, but a drawing was refused",
        Scenes.FULL_OF_97 + "draw() = -1\n" + Calls.each(0, 3, "pixel(0, 0, N) = -1; pixel(-32, -64, N) = -1"));
    run("10 a drawing of nothing", "draw() = 0; pixel(0, 0, 3) = 0; pixel(-32, -64, 3) = 0; pixel(31, 63, 3) = 0");
    run(
        "10 how many pieces were laid there: all 24, holes don't count",
        Scenes.DIAGONAL
            + "ink(1, 0, 0) = 1; draw() = 24; pixel(0, 0, 3) = 24; pixel(-1, -1, 3) = 24; pixel(-1, 1, 3) = 24\n"
            + Calls.each(0, 23, "paint(N, 0, 1,0,0) = 1")
            + "draw() = 24; pixel(0, 0, 3) = 21; pixel(0, 1, 3) = 21; pixel(-1, 0, 3) = 24; pixel(0, -1, 3) = 24");
    run(
        "10 its colour and 16 times the ink: the least and the greatest",
        """
        place(23, 0,0,0, 1,1,1) = 0; ink(0, 0, 3) = 1; paint(23, 15, 0,0,0) = 1; draw() = 1
        pixel(0, 0, 0) = 23; pixel(0, 0, 2) = 63; pixel(-1, 0, 1) = 1; pixel(0, -1, 1) = 2
        paint(23, 0, 7,7,7) = 1; draw() = 1; pixel(0, 0, 2) = 16
        """);
  }

  private static void promise11Seen() throws ReflectiveOperationException {
    run(
        "11 0 if at none",
        "place(0, 0,0,0, 32,32,32) = 0; seen(0) = 0; draw() = 1; seen(0) = 6144\n"
            + Calls.each(1, 23, "seen(N) = 0")
            + forNoBox("seen(N) = 0")
            + "lift(0) = 1; seen(0) = 6144; draw() = 0; seen(0) = 0; place(0, 0,0,0, 1,1,1) = 0; seen(0) = 0");
  }

  private static void promise12Changed() throws ReflectiveOperationException {
    run(
        "12 ahead of the first one no pixel had any",
        """
        changed(0) = 0; changed(1) = 100; changed(2) = 100; changed(3) = 100; changed(4) = 100
        draw() = 0; changed(0) = 0; changed(1) = 100; changed(2) = 100; changed(3) = 100; changed(4) = 100
        place(0, 0,0,0, 32,32,32) = 0; changed(0) = 0; draw() = 1
        changed(0) = 6144; changed(1) = -32; changed(2) = 31; changed(3) = -63; changed(4) = 63
        draw() = 1; changed(0) = 0; changed(1) = 100; changed(2) = 100; changed(3) = 100; changed(4) = 100
        lift(0) = 1; draw() = 0; changed(0) = 6144; changed(1) = -32; changed(2) = 31; changed(3) = -63; changed(4) = 63
        """);
    run(
        "12 another what",
        """
        changed(-1) = -1; changed(5) = -1; place(0, 0,0,0, 1,1,1) = 0; draw() = 1; changed(4) = 1
        changed(-1) = -1; changed(5) = -1; changed(MIN) = -1; changed(MAX) = -1; changed(256) = -1; changed(100) = -1
        """);
  }

  private static void promise13Count() throws ReflectiveOperationException {
    run(
        "13 0 (0 to 4) ahead of any",
        Scenes.DIAGONAL + Calls.each(0, 4, "count(N) = 0") + "count(5) = 24; count(6) = 0; draw() = 24\n"
            + "count(0) = 24; count(1) = 0; count(2) = 0; count(3) = 6; count(4) = 144; count(5) = 24; count(6) = 1");
    run(
        "13 another what",
        "count(-1) = -1; count(7) = -1; place(0, 0,0,0, 1,1,1) = 0; draw() = 1; count(6) = 1\n"
            + "count(-1) = -1; count(7) = -1; count(MIN) = -1; count(MAX) = -1; count(256) = -1; count(-7) = -1");
    run(
        "13 of the latest drawing, but 5 now",
        """
        place(0, 0,0,0, 32,32,32) = 0; draw() = 1; lift(0) = 1; count(0) = 1; count(3) = 6144; count(4) = 6144
        count(5) = 0; draw() = 0; count(0) = 0; count(3) = 0; count(4) = 0; count(6) = 2
        """);
  }

  private static void promise14Covers() throws ReflectiveOperationException {
    run(
        "14 one isn't there, or they are one",
        """
        covers(0, 1) = -1; covers(0, 0) = -1; place(0, 0,0,0, 1,1,1) = 0; covers(0, 0) = -1; covers(0, 1) = -1
        covers(1, 0) = -1; covers(1, 1) = -1; place(23, 1,1,1, 1,1,1) = 0; covers(0, 23) = 0; covers(23, 0) = 6
        covers(23, 23) = -1; covers(22, 23) = -1; covers(23, 22) = -1; lift(0) = 1; covers(23, 0) = -1
        """);
    run(
        "14 at how many pixels: a floor under a large box, a small one, one that is too high",
        """
        place(0, 0,0,0, 32,32,1) = 0; place(1, 0,0,1, 32,32,31) = 0; covers(1, 0) = 2048; covers(0, 1) = 0
        place(1, 31,31,1, 1,1,1) = 0; covers(1, 0) = 6; place(1, 0,0,31, 1,1,1) = 0; covers(1, 0) = 0
        """);
  }

  private static void promise15Tangled() throws ReflectiveOperationException {
    run(
        "15 itself too if there are others, else 0; it isn't there",
        "tangled(0) = -1; place(0, 0,0,0, 1,1,1) = 0; tangled(0) = 0; tangled(1) = -1; tangled(23) = -1; lift(0) = 1\n"
            + "tangled(0) = -1\n"
            + Scenes.DIAGONAL
            + Calls.each(0, 23, "tangled(N) = 0"));
    run(
        "15 as it is now: a ring that opens and closes",
        Scenes.RING
            + """
            tangled(0) = 3; place(2, 20,0,0, 2,1,1) = 0; tangled(0) = 0; tangled(1) = 0; tangled(2) = 0; draw() = 3
            place(2, 0,1,0, 2,1,1) = 0; tangled(0) = 3; draw() = 4; place(0, 20,0,0, 1,1,2) = 0; tangled(1) = 0
            tangled(2) = 0; tangled(0) = 0; draw() = 3; count(1) = 0; count(2) = 0
            place(0, 1,0,0, 1,1,2) = 0; tangled(1) = 3; place(0, 1,0,0, 1,1,1) = 0; tangled(1) = 0; covers(2, 0) = 2
            covers(1, 2) = 2; covers(0, 1) = 0; tangled(2) = 0; tangled(0) = 0; draw() = 3
            """);
    run(
        "15 as none were drawn, as it is now",
        Scenes.FULL_OF_96
            + "draw() = 96; tangled(0) = 24; tangled(23) = 24; lift(23) = 1; tangled(23) = -1; tangled(0) = 23");
  }

  private static void promise16Under() throws ReflectiveOperationException {
    StringBuilder text = new StringBuilder(Scenes.DIAGONAL);
    for (int k = 0; k < 24; k++) {
      text.append(String.format("under(0, 0, %d) = %d; under(-1, 1, %d) = %d\n", k, 23 - k, k, 23 - k));
    }
    run(
        "16 k-th from the nearest (0) on; there is none such",
        text
            + """
            under(0, 0, 24) = -1; under(0, 0, -1) = -1; under(0, 0, 25) = -1; under(0, 0, MIN) = -1; under(0, 0, MAX) = -1
            under(1, 0, 0) = -1; under(1, 0, -1) = -1; under(0, 2, 0) = -1; under(0, -2, 0) = -1; under(0, 0, 256) = -1
            lift(23) = 1; under(0, 0, 0) = 22; under(0, 0, 22) = 0; under(0, 0, 23) = -1
            """);
    run("16 no boxes", "under(0, 0, 0) = -1; under(0, 0, -1) = -1; under(-32, -64, 0) = -1; under(31, 63, 0) = -1");
  }

  private static void promise17Box() throws ReflectiveOperationException {
    run(
        "17 it isn't there, another what",
        Calls.each(0, 9, "box(0, N) = -1; box(23, N) = -1")
            + "place(23, 0,0,0, 32,32,32) = 0; paint(23, 15, 7,7,7) = 1\n"
            + told(23, 0, 32, 0, 32, 0, 32, 15, 7, 7, 7)
            + Calls.each(0, 9, "box(22, N) = -1; box(24, N) = -1; box(0, N) = -1")
            + "box(23, -1) = -1; box(23, 10) = -1; box(23, MIN) = -1; box(23, MAX) = -1; box(23, 256) = -1\n"
            + "box(23, -2147483642) = -1; box(23, -2147483640) = -1; box(23, -4) = -1; lift(23) = 1; box(23, 0) = -1");
  }

  private static void promises18And19KeepAndBack() throws ReflectiveOperationException {
    String noPlace =
        """
        keep(-1) = 0; keep(4) = 0; keep(MIN) = 0; keep(MAX) = 0; keep(256) = 0; keep(-4) = 0
        back(-1) = 0; back(4) = 0; back(MIN) = 0; back(MAX) = 0; back(256) = 0; back(-4) = 0
        """;
    run(
        "18 a place 0 to 3; no such place",
        noPlace
            + Calls.each(0, 3, "back(N) = 0")
            + Calls.each(0, 3, "place(0, N,N,N, 1,1,1) = 0; ink(0, N, 0) = 1; keep(N) = 1")
            + noPlace
            + "box(0, 0) = 3\n"
            + Calls.each(0, 3, "back(N) = 1; box(0, 0) = N; box(0, 4) = N; lift(0) = 1; back(N) = 1; count(5) = 1"));
    run(
        "18 kept once more",
        """
        place(0, 0,0,0, 1,1,1) = 0; ink(0, 0, 2) = 1; keep(2) = 1; place(1, 5,5,5, 1,1,1) = 0; lift(0) = 1
        ink(0, 0, 3) = 1; keep(2) = 1; lift(1) = 1; ink(0, 0, 0) = 1; back(2) = 1; count(5) = 1; box(1, 0) = 5
        box(0, 0) = -1; place(0, 0,0,0, 1,1,1) = 0; lift(1) = 1; draw() = 1; pixel(0, 0, 2) = 48
        """);
    run(
        "19 nothing is, which changes nothing",
        """
        place(0, 0,0,0, 1,1,1) = 0; paint(0, 7, 1,1,1) = 1; keep(1) = 1; back(0) = 0; back(2) = 0; back(3) = 0
        """
            + told(0, 0, 1, 0, 1, 0, 1, 7, 1, 1, 1)
            + "count(5) = 1; slide(0, 0, 3) = 3; back(2) = 0; box(0, 0) = 3; back(1) = 1; box(0, 0) = 0");
    run(
        "19 an empty stage comes back, and a full one",
        "keep(0) = 1\n"
            + Scenes.DIAGONAL
            + "keep(3) = 1; back(0) = 1; count(5) = 0; under(0, 0, 0) = -1; draw() = 0; back(3) = 1; count(5) = 24\n"
            + "draw() = 24; under(0, 0, 23) = 0; place(0, 23,23,23, 2,2,2) = 186; back(0) = 1; count(5) = 0; count(6) = 2\n"
            + "count(0) = 24; pixel(0, 0, 0) = 23; place(0, 23,23,23, 2,2,2) = 0");
    run(
        "19 a box that was not there has nothing of its looks when it is there again",
        """
        keep(0) = 1; place(0, 0,0,0, 1,1,1) = 0; paint(0, 7, 1,2,3) = 1; back(0) = 1; box(0, 6) = -1
        place(0, 0,0,0, 1,1,1) = 0; box(0, 6) = 0; box(0, 7) = 0; box(0, 8) = 0; box(0, 9) = 0
        """);
  }

  private static void run(String name, String calls) throws ReflectiveOperationException {
    Calls.run(CHECK, name, calls);
  }
}
