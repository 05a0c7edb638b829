/** Boxes for runs, as texts of calls. */
final class Scenes {
  /** Three boxes in a cube of size 2, of which 0 covers 1, 1 covers 2 and 2 covers 0. */
  static final String RING =
      """
      place(0, 1,0,0, 1,1,2) = 0; place(1, 0,0,1, 1,2,1) = 0; place(2, 0,1,0, 2,1,1) = 0
      """;

  /** All 24 boxes, each of them tangled with each, which are cut into just 96 pieces. */
  static final String FULL_OF_96 =
      """
      place(0, 0,0,2, 1,11,1) = 0; place(1, 0,0,6, 1,11,1) = 0; place(2, 2,0,4, 1,11,1) = 0
      place(3, 0,1,5, 11,1,1) = 0; place(4, 7,0,9, 1,11,1) = 0; place(5, 9,0,8, 1,11,1) = 0
      place(6, 0,2,5, 11,1,1) = 0; place(7, 0,5,3, 11,1,1) = 0; place(8, 5,0,4, 1,11,1) = 0
      place(9, 3,0,6, 1,11,1) = 0; place(10, 2,0,9, 1,11,1) = 0; place(11, 0,7,0, 11,1,1) = 0
      place(12, 0,1,3, 11,1,1) = 0; place(13, 4,3,0, 1,1,11) = 0; place(14, 7,0,8, 1,11,1) = 0
      place(15, 8,0,0, 1,1,11) = 0; place(16, 0,7,5, 11,1,1) = 0; place(17, 10,4,0, 1,1,11) = 0
      place(18, 8,8,0, 1,1,11) = 0; place(19, 6,6,0, 1,1,11) = 0; place(20, 0,5,1, 11,1,1) = 0
      place(21, 0,7,10, 11,1,1) = 0; place(22, 6,8,0, 1,1,11) = 0; place(23, 8,9,0, 1,1,11) = 0
      """;

  /** All 24 boxes, which would be cut into 97 pieces; without box 6 there are just 96. */
  static final String FULL_OF_97 =
      """
      place(0, 4,0,8, 1,10,1) = 0; place(1, 2,2,0, 1,1,10) = 0; place(2, 0,0,9, 10,1,1) = 0
      place(3, 7,8,0, 1,1,10) = 0; place(4, 3,6,0, 1,1,10) = 0; place(5, 0,7,9, 10,1,1) = 0
      place(6, 0,9,0, 1,1,10) = 0; place(7, 0,1,0, 1,1,10) = 0; place(8, 8,0,4, 1,10,1) = 0
      place(9, 0,0,7, 10,1,1) = 0; place(10, 8,0,2, 1,10,1) = 0; place(11, 5,0,3, 1,10,1) = 0
      place(12, 6,4,0, 1,1,10) = 0; place(13, 9,3,0, 1,1,10) = 0; place(14, 7,1,0, 1,1,10) = 0
      place(15, 0,5,7, 10,1,1) = 0; place(16, 0,5,5, 10,1,1) = 0; place(17, 8,0,8, 1,10,1) = 0
      place(18, 8,0,0, 1,10,1) = 0; place(19, 7,9,0, 1,1,10) = 0; place(20, 3,4,0, 1,1,10) = 0
      place(21, 1,0,8, 1,10,1) = 0; place(22, 9,4,0, 1,1,10) = 0; place(23, 1,0,0, 1,10,1) = 0
      """;

  /** All 24 boxes, of size 1, one behind the other on the room's diagonal, box 0 the farthest. */
  static final String DIAGONAL = Calls.each(0, 23, "place(N, N,N,N, 1,1,1) = 0");

  private Scenes() {}
}
