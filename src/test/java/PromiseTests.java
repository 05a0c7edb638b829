/** Runs by hand for each promise: ordinary inputs, the edges, wrong inputs. */
public final class PromiseTests {
  private static final Check CHECK = new Check();

  /** Twenty beams, which are cut into just 96 pieces. */
  private static final String WEAVE_OF_96 =
      """
      place(0, 4,0,12, 1,18,1) = 0; place(1, 0,10,9, 18,1,1) = 0; place(2, 0,15,7, 18,1,1) = 0
      place(3, 7,0,11, 1,18,1) = 0; place(4, 6,0,8, 1,18,1) = 0; place(5, 12,6,0, 1,1,18) = 0
      place(6, 10,0,0, 1,18,1) = 0; place(7, 11,0,6, 1,18,1) = 0; place(8, 8,9,0, 1,1,18) = 0
      place(9, 10,0,15, 1,18,1) = 0; place(10, 9,9,0, 1,1,18) = 0; place(11, 0,8,9, 18,1,1) = 0
      place(12, 13,13,0, 1,1,18) = 0; place(13, 10,0,10, 1,18,1) = 0; place(14, 5,0,5, 1,18,1) = 0
      place(15, 10,0,8, 1,18,1) = 0; place(16, 3,0,10, 1,18,1) = 0; place(17, 16,0,12, 1,18,1) = 0
      place(18, 0,1,13, 18,1,1) = 0; place(19, 0,14,4, 18,1,1) = 0
      """;

  /** A box of size 8, each face with a sprite of its own, of whose row 2 only place 5 is no hole. */
  private static final String SPRITED_BOX =
      """
      place(0, 0,0,0, 8,8,8) = 0; paint(0, 9, 1,2,3) = 1
      ink(1, 2, 0x0800) = 1; ink(2, 2, 0x0800) = 1; ink(3, 2, 0x0800) = 1
      """;

  public static void main(String[] args) throws ReflectiveOperationException {
    CHECK.due("NONE", BoxStage.NONE, -1);
    promise1NewObject();
    promise2Place();
    promise3Lift();
    promise4Paint();
    promise5Ink();
    promise6Slide();
    promise7Drop();
    promise8Draw();
    promise9Piece();
    promise10Pixel();
    promise11Seen();
    promise12Changed();
    promise13Count();
    promise14Covers();
    promise15Tangled();
    promise16Under();
    promise17Box();
    promises18And19KeepAndBack();
    CHECK.end();
  }

  private static void promise1NewObject() throws ReflectiveOperationException {
    run(
        "1 nothing is there",
        """
        count(0) = 0; count(1) = 0; count(2) = 0; count(3) = 0; count(4) = 0; count(5) = 0; count(6) = 0
        box(0, 0) = -1; box(23, 6) = -1; lift(0) = 0; tangled(0) = -1; under(0, 0, 0) = -1; drop() = 0
        piece(0, 0) = -1; pixel(0, 0, 0) = -1; pixel(0, 0, 3) = -1; seen(0) = 0
        changed(0) = 0; changed(1) = 100; changed(2) = 100; changed(3) = 100; changed(4) = 100
        back(0) = 0; back(3) = 0
        """);
    run(
        "1 all inks are 1",
        """
        place(0, 0,0,0, 1,1,1) = 0; draw() = 1
        pixel(0, 0, 2) = 16; pixel(-1, 0, 2) = 16; pixel(0, -1, 2) = 16
        """);
  }

  private static void promise2Place() throws ReflectiveOperationException {
    run(
        "2 place, touch, share",
        """
        place(0, 0,0,0, 32,32,32) = 0; place(1, 0,0,0, 1,1,1) = 2
        place(0, 31,31,31, 1,1,1) = 0        # its own earlier place is not in its way
        place(1, 30,31,31, 1,1,1) = 0        # they touch
        place(2, 30,31,31, 2,1,1) = 2        # of two the lowest
        place(0, 30,31,31, 2,1,1) = 10; box(0, 0) = 31
        place(23, 0,0,0, 1,1,1) = 0; place(5, 0,0,0, 2,2,2) = 186; box(5, 0) = -1
        """);
    run(
        "2 what can't be",
        """
        place(-1, 0,0,0, 1,1,1) = 1; place(24, 0,0,0, 1,1,1) = 1; place(MIN, 0,0,0, 1,1,1) = 1
        place(0, -1,0,0, 1,1,1) = 1; place(0, 0,-1,0, 1,1,1) = 1; place(0, 0,0,-1, 1,1,1) = 1
        place(0, 0,0,0, 0,1,1) = 1; place(0, 0,0,0, 1,0,1) = 1; place(0, 0,0,0, 1,1,0) = 1
        place(0, 0,0,0, 1,1,-1) = 1; place(0, 5,0,0, -3,1,1) = 1
        place(0, 1,0,0, 32,1,1) = 1; place(0, 0,1,0, 1,32,1) = 1; place(0, 0,0,1, 1,1,32) = 1
        place(0, 32,0,0, 1,1,1) = 1; place(0, 0,0,0, 33,1,1) = 1
        place(0, MAX,0,0, 1,1,1) = 1; place(0, 0,0,0, 1,MAX,1) = 1; place(0, 0,MAX,0, 1,MAX,1) = 1
        place(0, 0,0,MIN, 1,1,MIN) = 1; place(0, MIN,0,0, MAX,1,1) = 1; place(0, 0,0,0, MIN,1,1) = 1
        count(5) = 0
        place(0, 31,31,31, 1,1,1) = 0
        place(1, 31,31,31, 1,1,2) = 1        # it can't lie so, whatever is there
        """);
    run(
        "2 looks stay, but for one that was gone",
        """
        place(4, 1,2,3, 4,5,6) = 0
        box(4, 0) = 1; box(4, 1) = 5; box(4, 2) = 2; box(4, 3) = 7; box(4, 4) = 3; box(4, 5) = 9
        paint(4, 5, 1,2,3) = 1; place(4, 0,0,0, 1,1,1) = 0
        box(4, 1) = 1; box(4, 6) = 5; box(4, 7) = 1; box(4, 8) = 2; box(4, 9) = 3
        lift(4) = 1; place(4, 0,0,0, 1,1,1) = 0; box(4, 6) = 0; box(4, 7) = 0; box(4, 8) = 0; box(4, 9) = 0
        """);
  }

  private static void promise3Lift() throws ReflectiveOperationException {
    run(
        "3",
        """
        place(0, 0,0,0, 4,4,4) = 0; place(23, 4,0,0, 4,4,4) = 0; count(5) = 2
        lift(1) = 0; lift(-1) = 0; lift(24) = 0; lift(32) = 0; lift(MIN) = 0; lift(MAX) = 0; count(5) = 2
        lift(23) = 1; lift(23) = 0; box(23, 0) = -1; count(5) = 1
        place(1, 4,0,0, 4,4,4) = 0           # its room is free again
        lift(0) = 1; lift(1) = 1; draw() = 0
        """);
  }

  private static void promise4Paint() throws ReflectiveOperationException {
    run(
        "4",
        """
        paint(0, 1, 1,1,1) = 0; place(0, 0,0,0, 1,1,1) = 0; paint(0, 15, 7,6,5) = 1
        box(0, 6) = 15; box(0, 7) = 7; box(0, 8) = 6; box(0, 9) = 5
        paint(0, 16, 1,1,1) = 0; paint(0, -1, 1,1,1) = 0
        paint(0, 1, 8,1,1) = 0; paint(0, 1, 1,8,1) = 0; paint(0, 1, 1,1,8) = 0
        paint(0, 1, -1,1,1) = 0; paint(0, 1, 1,MIN,1) = 0; paint(0, 1, 1,1,MAX) = 0
        paint(-1, 1, 1,1,1) = 0; paint(24, 1, 1,1,1) = 0; paint(1, 1, 1,1,1) = 0
        box(0, 6) = 15; box(0, 7) = 7; box(0, 8) = 6; box(0, 9) = 5
        paint(0, 0, 0,0,0) = 1; box(0, 6) = 0; box(0, 7) = 0
        """);
  }

  private static void promise5Ink() throws ReflectiveOperationException {
    run(
        "5 rows and places",
        SPRITED_BOX
            + """
            draw() = 1
            pixel(2, 8, 1) = 0; pixel(2, 8, 2) = 41      # y 5.5, z 2.75
            pixel(1, 9, 0) = -1; pixel(1, 8, 2) = 25     # y 6.5 in row 2, and in row 3
            pixel(-3, 8, 1) = 1; pixel(-3, 8, 2) = 41    # x 5.5, z 2.75
            pixel(-2, 9, 0) = -1; pixel(-2, 8, 2) = 25
            pixel(2, -8, 1) = 2; pixel(2, -8, 2) = 41    # x 5.25, y 2.75
            pixel(3, -8, 2) = 41                         # x 5.75, y 2.25
            pixel(3, -7, 0) = -1; pixel(1, -8, 2) = 25   # x 6.25 in row 2; row 3
            """);
    run(
        "5 places in the room, modulo 8",
        SPRITED_BOX
            + """
            slide(0, 0, 8) = 8; slide(0, 1, 8) = 8; slide(0, 2, 8) = 8; draw() = 1
            pixel(2, 8, 2) = 41; pixel(1, 9, 0) = -1; pixel(-3, 8, 2) = 41; pixel(2, -8, 2) = 41
            place(0, 28,28,28, 4,4,4) = 0; ink(3, 6, 0xFBFF) = 1; draw() = 1
            pixel(-2, -4, 1) = 2; pixel(-2, -4, 2) = 41  # x 29.25, y 30.75
            """);
    run(
        "5 words and wrong rows",
        """
        place(0, 0,0,0, 1,1,1) = 0
        ink(0, 0, -1) = 1; draw() = 1; pixel(0, 0, 2) = 48
        ink(0, 0, 0xFFFF0002) = 1; draw() = 1; pixel(0, 0, 2) = 32
        ink(0, 0, 0x10000) = 1; draw() = 1; pixel(0, 0, 0) = -1; pixel(0, 0, 3) = 0
        ink(0, 0, 1) = 1; ink(7, 7, 3) = 1
        ink(-1, 0, 0) = 0; ink(8, 0, 0) = 0; ink(0, -1, 0) = 0; ink(0, 8, 0) = 0; ink(MIN, MAX, 0) = 0
        draw() = 1; pixel(0, 0, 2) = 16; pixel(0, -1, 2) = 16
        """);
  }

  private static void promise6Slide() throws ReflectiveOperationException {
    run(
        "6 to the walls",
        """
        place(0, 0,0,0, 2,3,4) = 0; slide(0, 0, 5) = 5; box(0, 0) = 5; box(0, 1) = 7; slide(0, 0, 32) = 25
        slide(0, 1, 32) = 29; slide(0, 2, 32) = 28; slide(0, 0, 1) = 0
        box(0, 1) = 32; box(0, 3) = 32; box(0, 5) = 32
        slide(0, 3, 1) = 1; slide(0, 3, 32) = 29; slide(0, 4, 32) = 29; slide(0, 5, 32) = 28
        box(0, 0) = 0; box(0, 2) = 0; box(0, 4) = 0; slide(0, 5, 32) = 0; slide(0, 1, 0) = 0
        """);
    run(
        "6 up to another one, through none",
        """
        place(0, 0,0,0, 2,2,2) = 0; place(1, 10,1,1, 1,1,1) = 0
        slide(0, 0, 32) = 8; slide(0, 0, 32) = 0; slide(0, 1, 32) = 30; slide(0, 0, 32) = 22
        slide(0, 4, 32) = 30; slide(0, 3, 32) = 19; box(0, 0) = 11
        """);
    run(
        "6 wrong",
        """
        slide(0, 0, 1) = -1; place(0, 4,4,4, 1,1,1) = 0
        slide(-1, 0, 1) = -1; slide(24, 0, 1) = -1; slide(1, 0, 1) = -1; slide(0, -1, 1) = -1; slide(0, 6, 1) = -1
        slide(0, 0, -1) = -1; slide(0, 0, 33) = -1; slide(0, MAX, MIN) = -1; slide(0, MIN, MAX) = -1
        box(0, 0) = 4; box(0, 2) = 4; box(0, 4) = 4
        """);
  }

  private static void promise7Drop() throws ReflectiveOperationException {
    run(
        "7",
        """
        drop() = 0
        place(0, 0,0,20, 2,2,2) = 0; place(1, 0,0,10, 1,1,3) = 0; place(2, 1,1,5, 1,1,1) = 0
        place(23, 8,8,31, 1,1,1) = 0; place(22, 8,8,30, 1,1,1) = 0
        drop() = 92                          # 17, 10, 5; 30, 30
        box(0, 4) = 3; box(1, 4) = 0; box(2, 4) = 0; box(22, 4) = 0; box(23, 4) = 1; drop() = 0
        """);
    run(
        "7 turns go by the places ahead of all",
        """
        place(0, 0,0,9, 4,4,1) = 0; place(1, 3,3,5, 1,1,8) = 2; place(1, 4,3,5, 1,1,8) = 0
        place(2, 3,3,14, 2,1,1) = 0; place(3, 3,3,2, 1,1,1) = 0; drop() = 21
        box(3, 4) = 0; box(1, 4) = 0; box(0, 4) = 1; box(2, 4) = 8
        """);
  }

  private static void promise8Draw() throws ReflectiveOperationException {
    run("8 none", "draw() = 0; draw() = 0; count(6) = 2; pixel(0, 0, 3) = 0; pixel(0, 0, 0) = -1");
    run("8 a ring", Scenes.RING + "draw() = 4; count(1) = 1; count(2) = 1; lift(1) = 1; draw() = 2; count(1) = 0");
    run(
        "8 what was drawn stays",
        """
        place(0, 0,0,0, 1,1,1) = 0; paint(0, 3, 0,0,0) = 1; draw() = 1
        paint(0, 4, 1,1,1) = 1; ink(0, 0, 0) = 1; place(0, 9,0,0, 2,2,2) = 0; place(1, 20,0,0, 1,1,1) = 0
        piece(0, 2) = 0; piece(0, 3) = 1; piece(1, 0) = -1; pixel(0, 0, 2) = 19; seen(0) = 6; count(3) = 6
        keep(0) = 1; lift(0) = 1; back(0) = 1; lift(0) = 1; tangled(1) = 0
        piece(0, 0) = 0; pixel(0, 0, 0) = 0; seen(0) = 6; count(0) = 1; count(4) = 6; changed(0) = 6
        draw() = 1; seen(0) = 0; piece(0, 0) = 1; pixel(0, 0, 0) = -1
        """);
    run(
        "8 ninety-six pieces, and too many",
        WEAVE_OF_96
            + """
            draw() = 96; count(0) = 96; count(1) = 76; count(2) = 20; changed(0) = 854; seen(20) = 0
            piece(95, 0) = 17; piece(96, 0) = -1
            place(20, 31,31,0, 1,1,1) = 0; draw() = -1
            count(0) = 96; count(1) = 76; count(5) = 21; count(6) = 1; changed(0) = 854; seen(20) = 0
            piece(95, 0) = 17; piece(96, 0) = -1
            lift(20) = 1; draw() = 96; count(6) = 2; changed(0) = 0
            """);
  }

  private static void promise9Piece() throws ReflectiveOperationException {
    run(
        "9 a ring is cut once",
        Scenes.RING
            + """
            draw() = 4
            piece(0, 0) = 0; piece(0, 1) = 0; piece(1, 0) = 2; piece(1, 1) = 2; piece(2, 0) = 1; piece(2, 1) = 1
            piece(3, 0) = 0; piece(3, 1) = 24
            piece(0, 2) = 1; piece(0, 3) = 2; piece(0, 4) = 0; piece(0, 5) = 1; piece(0, 6) = 0; piece(0, 7) = 1
            piece(1, 2) = 0; piece(1, 3) = 2; piece(1, 4) = 1; piece(1, 5) = 2; piece(1, 6) = 0; piece(1, 7) = 1
            piece(3, 2) = 1; piece(3, 3) = 2; piece(3, 4) = 0; piece(3, 5) = 1; piece(3, 6) = 1; piece(3, 7) = 2
            piece(4, 0) = -1; piece(-1, 0) = -1; piece(MIN, 0) = -1; piece(MAX, 0) = -1
            piece(0, -1) = -1; piece(0, 8) = -1; piece(0, MIN) = -1; piece(0, MAX) = -1
            """);
    run(
        "9 the lowest that is free comes first",
        """
        place(5, 0,0,0, 1,1,1) = 0; place(3, 0,0,1, 1,1,1) = 0; place(20, 31,0,0, 1,1,1) = 0
        place(1, 0,0,2, 1,1,1) = 0; place(0, 0,31,0, 1,1,1) = 0; draw() = 5
        piece(0, 1) = 0; piece(1, 1) = 5; piece(2, 1) = 3; piece(3, 1) = 1; piece(4, 1) = 20
        """);
    run(
        "9 planes: along x ahead of y and z, the lowest first",
        """
        place(0, 3,3,0, 1,2,5) = 0; place(1, 4,2,1, 1,2,2) = 0; place(2, 2,1,3, 3,2,1) = 0; draw() = 6
        piece(0, 1) = 0; piece(1, 1) = 1; piece(2, 1) = 2; piece(3, 1) = 25; piece(4, 1) = 24; piece(5, 1) = 26
        piece(0, 4) = 3; piece(0, 5) = 4; piece(0, 6) = 0; piece(0, 7) = 1
        piece(3, 4) = 3; piece(3, 5) = 4; piece(3, 6) = 1; piece(3, 7) = 5
        piece(4, 4) = 4; piece(4, 5) = 5; piece(4, 6) = 0; piece(4, 7) = 5; piece(5, 0) = 1
        """);
  }

  private static void promise10Pixel() throws ReflectiveOperationException {
    run(
        "10 the edges of the picture",
        """
        place(0, 0,0,0, 32,32,32) = 0; paint(0, 7, 0,0,0) = 1; pixel(0, 0, 0) = -1; pixel(0, 0, 3) = -1
        draw() = 1; count(3) = 6144
        pixel(-32, 0, 0) = 0; pixel(-32, 0, 1) = 1; pixel(31, 0, 0) = 0; pixel(31, 0, 1) = 0
        pixel(0, -63, 1) = 2; pixel(0, -64, 0) = -1; pixel(0, -64, 3) = 0
        pixel(0, 63, 0) = 0; pixel(-1, 63, 1) = 1; pixel(1, 63, 0) = -1
        pixel(-32, -64, 0) = -1; pixel(-32, -64, 3) = 0; pixel(31, 63, 3) = 0; pixel(0, 0, 2) = 23
        pixel(-33, 0, 3) = -1; pixel(32, 0, 3) = -1; pixel(0, -65, 3) = -1; pixel(0, 64, 3) = -1
        pixel(MIN, 0, 3) = -1; pixel(0, MAX, 3) = -1; pixel(MAX, MIN, 0) = -1
        pixel(0, 0, -1) = -1; pixel(0, 0, 4) = -1; pixel(0, 0, MIN) = -1; pixel(0, 0, MAX) = -1
        """);
    run(
        "10 a hole shows what is farther",
        """
        place(0, 0,0,0, 1,1,1) = 0; place(1, 1,1,1, 1,1,1) = 0; paint(1, 5, 1,2,2) = 1; paint(0, 6, 0,0,0) = 1
        draw() = 2; pixel(0, 0, 0) = 1; pixel(0, 0, 3) = 2; pixel(-1, 0, 2) = 21; count(4) = 12
        ink(1, 1, 0x0003) = 1; draw() = 2    # a hole in place 1 of row 1 of face 0 alone
        pixel(0, 0, 0) = 0; pixel(0, 0, 1) = 0; pixel(0, 0, 2) = 22; pixel(0, 0, 3) = 1; pixel(-1, 0, 0) = 1
        seen(0) = 2; seen(1) = 4; count(3) = 6; count(4) = 10
        ink(0, 0, 0) = 1; draw() = 2; pixel(0, 0, 0) = -1; pixel(0, 0, 3) = 0; count(3) = 4; count(4) = 4
        """);
    run(
        "10 a cut shows through no hole",
        Scenes.RING
            + """
            paint(0, 1, 1,1,2) = 1; ink(1, 1, 0) = 1
            draw() = 4; piece(3, 1) = 24; piece(0, 7) = 1    # the upper half of box 0 has holes at faces 0 and 1
            under(1, 0, 0) = 0; under(1, 0, 1) = -1; under(0, 0, 0) = 0; under(0, 0, 1) = -1
            pixel(1, 0, 0) = -1; pixel(0, 0, 0) = -1         # here the lower half ends at the cut
            pixel(1, 0, 3) = 1; pixel(0, 0, 3) = 1           # which counts as laid, being no hole
            under(1, -1, 0) = 0; pixel(1, -1, 0) = -1; pixel(1, -1, 3) = 0
            pixel(0, -2, 0) = 0; pixel(0, -2, 1) = 2; pixel(1, 2, 0) = 0
            """);
  }

  private static void promise11Seen() throws ReflectiveOperationException {
    run(
        "11",
        """
        place(0, 0,0,0, 1,1,1) = 0; place(1, 1,1,1, 1,1,1) = 0; place(23, 10,0,0, 2,2,2) = 0; seen(0) = 0; draw() = 3
        seen(0) = 0; seen(1) = 6; seen(23) = 24; seen(2) = 0; seen(-1) = 0; seen(24) = 0; seen(MIN) = 0; seen(MAX) = 0
        lift(1) = 1; seen(1) = 6; draw() = 2; seen(0) = 6; seen(1) = 0
        """);
  }

  private static void promise12Changed() throws ReflectiveOperationException {
    run(
        "12 what differs, and where",
        """
        place(0, 0,0,0, 1,1,1) = 0; changed(0) = 0; draw() = 1
        changed(0) = 6; changed(1) = -1; changed(2) = 0; changed(3) = -1; changed(4) = 1
        draw() = 1; changed(0) = 0; changed(1) = 100; changed(2) = 100; changed(3) = 100; changed(4) = 100
        slide(0, 0, 2) = 2; changed(0) = 0; draw() = 1
        changed(0) = 12; changed(1) = -1; changed(2) = 2; changed(3) = -1; changed(4) = 3
        changed(-1) = -1; changed(5) = -1; changed(MIN) = -1; changed(MAX) = -1
        """);
    run(
        "12 box, face, colour, ink, each alone",
        """
        place(0, 0,0,0, 2,2,2) = 0; draw() = 1
        paint(0, 1, 0,0,0) = 1; draw() = 1; changed(0) = 24
        paint(0, 1, 0,0,1) = 1; draw() = 1; changed(0) = 0
        ink(1, 0, 0xAAAA) = 1; draw() = 1; changed(0) = 4; changed(3) = -3; changed(4) = -2
        lift(0) = 1; place(1, 0,0,0, 2,2,2) = 0; draw() = 1; paint(1, 1, 0,0,0) = 1; draw() = 1; changed(0) = 24
        lift(1) = 1; place(0, 0,0,0, 2,2,2) = 0; paint(0, 1, 0,0,0) = 1; draw() = 1; changed(0) = 24
        place(0, 0,0,0, 3,2,2) = 0; draw() = 1; changed(0) = 14    # 8 are new, 6 have another face
        """);
    run(
        "12 a single ink of a sprite",
        SPRITED_BOX
            + """
            draw() = 1; ink(1, 2, 0x0C00) = 1; draw() = 1
            changed(0) = 2; changed(1) = 2; changed(2) = 2; changed(3) = 8; changed(4) = 9
            ink(3, 2, 0x0C00) = 1; draw() = 1
            changed(0) = 2; changed(1) = 2; changed(2) = 3; changed(3) = -8; changed(4) = -8
            """);
    run(
        "12 how many were laid makes no difference",
        """
        place(0, 1,1,1, 1,1,1) = 0; draw() = 1; place(1, 0,0,0, 1,1,1) = 0; draw() = 2; changed(0) = 0; count(4) = 12
        """);
  }

  private static void promise13Count() throws ReflectiveOperationException {
    run(
        "13",
        Scenes.RING
            + """
            count(5) = 3; count(0) = 0; count(6) = 0; draw() = 4
            count(0) = 4; count(1) = 1; count(2) = 1; count(3) = 24; count(4) = 32; count(5) = 3; count(6) = 1
            count(-1) = -1; count(7) = -1; count(MIN) = -1; count(MAX) = -1
            lift(0) = 1; count(5) = 2; count(0) = 4
            """);
    run(
        "13 a box that is cut twice counts once",
        """
        place(0, 3,3,0, 1,2,5) = 0; place(1, 4,2,1, 1,2,2) = 0; place(2, 2,1,3, 3,2,1) = 0; draw() = 6
        count(1) = 3; count(2) = 2
        """);
  }

  private static void promise14Covers() throws ReflectiveOperationException {
    run(
        "14",
        Scenes.RING
            + """
            covers(0, 1) = 2; covers(1, 0) = 0; covers(1, 2) = 2; covers(2, 1) = 0; covers(2, 0) = 2; covers(0, 2) = 0
            covers(0, 0) = -1; covers(0, 3) = -1; covers(3, 0) = -1; covers(3, 3) = -1
            covers(-1, 0) = -1; covers(0, 24) = -1; covers(MIN, MAX) = -1
            ink(0, 0, 0) = 1; ink(0, 1, 0) = 1; covers(0, 1) = 2    # holes are hit, too
            place(3, 20,20,20, 12,12,12) = 0; covers(3, 0) = 10; lift(1) = 1; covers(0, 1) = -1
            """);
    run(
        "14 near, but no pixel in common",
        """
        place(0, 0,0,0, 1,1,1) = 0; place(1, 2,1,0, 1,1,1) = 0; covers(1, 0) = 0; covers(0, 1) = 0
        place(1, 1,0,0, 1,1,1) = 0; covers(1, 0) = 2; place(1, 3,3,2, 1,1,1) = 0; covers(1, 0) = 2
        """);
  }

  private static void promise15Tangled() throws ReflectiveOperationException {
    run(
        "15",
        Scenes.RING
            + """
            tangled(0) = 3; tangled(1) = 3; tangled(2) = 3; tangled(3) = -1; tangled(-1) = -1; tangled(24) = -1
            place(3, 2,2,2, 1,1,1) = 0; tangled(3) = 0; tangled(0) = 3; draw() = 5; tangled(0) = 3
            lift(1) = 1; tangled(0) = 0; tangled(2) = 0; tangled(1) = -1; tangled(MIN) = -1; tangled(MAX) = -1
            """);
  }

  private static void promise16Under() throws ReflectiveOperationException {
    run(
        "16",
        """
        place(3, 0,0,0, 1,1,1) = 0; place(1, 1,1,1, 1,1,1) = 0; place(0, 5,5,5, 1,1,1) = 0
        under(0, 0, 0) = 0; under(0, 0, 1) = 1; under(0, 0, 2) = 3; under(0, 0, 3) = -1
        under(0, 0, -1) = -1; under(0, 0, MIN) = -1; under(0, 0, MAX) = -1; under(1, 0, 0) = -1
        ink(0, 5, 0) = 1; under(0, 0, 0) = 0; lift(0) = 1; under(0, 0, 0) = 1
        under(-33, 0, 0) = -1; under(32, 0, 0) = -1; under(0, -65, 0) = -1; under(0, 64, 0) = -1
        under(MIN, 0, 0) = -1; under(0, MIN, 0) = -1; under(MAX, MAX, 0) = -1
        lift(1) = 1; lift(3) = 1; place(0, 0,0,0, 32,32,32) = 0
        under(-32, 0, 0) = 0; under(31, 0, 0) = 0; under(0, -63, 0) = 0; under(0, -64, 0) = -1
        under(0, 63, 0) = 0; under(-32, -64, 0) = -1
        """);
  }

  private static void promise17Box() throws ReflectiveOperationException {
    run(
        "17",
        """
        place(23, 1,3,5, 7,8,9) = 0; paint(23, 4, 5,6,7) = 1
        box(23, 0) = 1; box(23, 1) = 8; box(23, 2) = 3; box(23, 3) = 11; box(23, 4) = 5; box(23, 5) = 14
        box(23, 6) = 4; box(23, 7) = 5; box(23, 8) = 6; box(23, 9) = 7
        box(23, 10) = -1; box(23, -1) = -1; box(23, MIN) = -1; box(23, MAX) = -1
        box(0, 0) = -1; box(-1, 0) = -1; box(24, 0) = -1; box(55, 0) = -1; box(MIN, 0) = -1; box(MAX, 0) = -1
        """);
  }

  private static void promises18And19KeepAndBack() throws ReflectiveOperationException {
    run(
        "18 and 19",
        """
        back(0) = 0; back(3) = 0; keep(-1) = 0; keep(4) = 0; keep(MIN) = 0; keep(MAX) = 0
        keep(3) = 1                          # with nothing in it
        place(0, 0,0,0, 1,1,1) = 0; paint(0, 3, 1,2,3) = 1; ink(1, 0, 2) = 1; keep(0) = 1
        place(0, 5,5,5, 2,2,2) = 0; paint(0, 9, 0,0,0) = 1; place(1, 0,0,0, 1,1,1) = 0; ink(1, 0, 3) = 1; keep(1) = 1
        back(0) = 1; box(0, 0) = 0; box(0, 1) = 1; box(0, 6) = 3; box(0, 7) = 1; box(1, 0) = -1; count(5) = 1
        draw() = 1; pixel(0, 0, 2) = 35
        lift(0) = 1; ink(1, 0, 0) = 1; back(0) = 1; box(0, 9) = 3; draw() = 1; pixel(0, 0, 2) = 35    # it stays kept
        back(1) = 1; count(5) = 2; box(0, 0) = 5; box(0, 6) = 9; paint(0, 0, 1,1,1) = 1; lift(1) = 1
        place(0, 0,0,0, 1,1,1) = 0; draw() = 1; pixel(0, 0, 2) = 48
        back(3) = 1; count(5) = 0; count(6) = 3; pixel(0, 0, 2) = 48; place(0, 0,0,0, 1,1,1) = 0; draw() = 1
        pixel(0, 0, 2) = 16; paint(0, 0, 1,1,1) = 1; draw() = 1; pixel(0, 0, 2) = 16
        back(2) = 0; back(4) = 0; back(-1) = 0; back(MIN) = 0; back(MAX) = 0; count(5) = 1
        """);
  }

  private static void run(String name, String calls) throws ReflectiveOperationException {
    Calls.run(CHECK, name, calls);
  }
}
