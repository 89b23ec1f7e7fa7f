/** Promises 20 to 22: what is held of two unknown tents. */
public final class HeldTest {
  private static final Due D = new Due();

  public static void main(String[] args) {
    promise20Hold();
    promise21Unhold();
    promise22Tents();
    promise22EachKind();
    D.end();
  }

  private static void promise20Hold() {
    CardHouse x = new CardHouse();
    int[][] bad = {
      {-1, 1, 0, 0}, {2, 1, 0, 0}, {0, 0, 0, 0}, {0, 10, 0, 0},
      {0, 1, -1, 0}, {0, 1, 10, 0}, {0, 1, 0, -1}, {0, 1, 0, 2}
    };
    for (int[] b : bad) D.due("20 bad", x.hold(b[0], b[1], b[2], b[3]), -2);
    D.due("20 nothing held", x.about(6), 0);
    D.due("20 still all", x.tents(0), 16);
    for (int i = 1; i <= 6; i++) D.due("20 hold", x.hold(1, 1, 9, 1), i);
    D.due("20 full", x.hold(0, 9, 0, 1), -4);
    D.due("20 bad ahead of full", x.hold(2, 9, 0, 1), -2);
    D.due("20 six", x.about(6), 6);
    D.due("20 full changes nothing", x.tents(0), 16);
  }

  private static void promise21Unhold() {
    CardHouse x = new CardHouse();
    D.due("21 none", x.unhold(), 0);
    x.hold(0, 9, 0, 1);
    x.hold(1, 9, 0, 1);
    D.due("21 nothing can be", x.tents(0), 0);
    D.due("21 two", x.unhold(), 2);
    D.due("21 none left", x.about(6), 0);
    D.due("21 all again", x.tents(0), 16);
    D.due("21 the first", x.tents(1), 0);
  }

  private static void promise22Tents() {
    CardHouse x = new CardHouse();
    D.due("22 below", x.tents(-1), -2);
    D.due("22 above", x.tents(2), -2);
    D.due("22 all", x.tents(0), 16);
    D.due("22 first", x.tents(1), 0);
    // The one holds 24 alone: worn or heavy.
    x.hold(0, 3, 0, 1);
    D.due("22 half", x.tents(0), 8);
    D.due("22 first worn", x.tents(1), 10);
    // The other does not hold 32 with 8 on it: plain (24) and waxed (16).
    x.hold(1, 4, 1, 0);
    D.due("22 quarter", x.tents(0), 4);
    // It does hold 24 with 8 on it: plain.
    x.hold(1, 3, 1, 1);
    D.due("22 two", x.tents(0), 2);
    // The one does not hold 32: worn.
    x.hold(0, 4, 0, 0);
    D.due("22 one", x.tents(0), 1);
    D.due("22 worn and plain", x.tents(1), 10);
    x.unhold();
    x.hold(0, 3, 0, 1);
    x.hold(1, 3, 0, 1);
    D.due("22 worn and worn", x.tents(1), 11);
    x.hold(0, 4, 0, 1);
    D.due("22 heavy and worn", x.tents(1), 31);
    x.hold(1, 4, 0, 1);
    D.due("22 heavy and heavy", x.tents(1), 33);
    x.hold(0, 4, 0, 0);
    D.due("22 none", x.tents(0), 0);
    D.due("22 none first", x.tents(1), -9);
  }

  private static void promise22EachKind() {
    // Plain 16, worn 24, waxed 8, heavy 32: how many of them hold force f with nothing on them.
    int[] holding = {4, 3, 2, 1, 0, 0, 0, 0, 0};
    for (int f = 1; f <= 9; f++) {
      CardHouse x = new CardHouse();
      x.hold(0, f, 0, 1);
      D.due("22 holding " + f, x.tents(0), 4 * holding[f - 1]);
      x.unhold();
      x.hold(1, f, 0, 0);
      D.due("22 not holding " + f, x.tents(0), 4 * (4 - holding[f - 1]));
    }
    // Nine times 8 on it: even waxed holds 9, though it would not bear it in a house.
    CardHouse x = new CardHouse();
    x.hold(0, 9, 9, 1);
    D.due("22 load", x.tents(0), 16);
    x.hold(1, 9, 7, 1);
    D.due("22 less load", x.tents(0), 12);
    D.due("22 less load, first", x.tents(1), 0);
  }
}
