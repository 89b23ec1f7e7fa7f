/** Boundary cases of HELD and TENTS: promises 20 to 22, a test for each sentence. */
public final class EdgesHeldTest {
  private static final Due D = new Due();
  private static final int LEAST = Integer.MIN_VALUE, MOST = Integer.MAX_VALUE;

  public static void main(String[] args) {
    whichOfTwo();
    force();
    eightTimes();
    heldOrNot();
    six();
    badAheadOfFull();
    unholdNoneAndAll();
    tentsBad();
    sixteen();
    noneAtAll();
    firstOne();
    justEnough();
    D.end();
  }

  private static void whichOfTwo() {
    D.sentence("the one (w 0), or the other (1); 20: BAD: w");
    CardHouse x = new CardHouse();
    for (int w : new int[] {LEAST, -1, 2, 3, MOST}) D.due("w " + w, x.hold(w, 1, 0, 1), -2);
    D.due("nothing is held", x.about(6), 0);
    D.due("the one", x.hold(0, 4, 0, 1), 1);
    D.due("of it", x.tents(1), 30);
    D.due("the other", x.hold(1, 4, 0, 1), 2);
    D.due("of both", x.tents(1), 33);
  }

  private static void force() {
    D.sentence("a DRAUGHT of FORCE f (1 .. 9); 20: BAD: f");
    CardHouse x = new CardHouse();
    for (int f : new int[] {LEAST, -1, 0, 10, 11, MOST}) D.due("f " + f, x.hold(0, f, 0, 1), -2);
    D.due("nothing is held", x.about(6), 0);
    D.due("f 1", x.hold(0, 1, 0, 1), 1);
    D.due("all hold 1", x.tents(0), 16);
    D.due("f 9", x.hold(0, 9, 0, 0), 2);
    D.due("none holds 9 with nothing on it", x.tents(0), 16);
  }

  private static void eightTimes() {
    D.sentence("8 times l (0 .. 9) being on it; 20: BAD: l");
    CardHouse x = new CardHouse();
    for (int l : new int[] {LEAST, -1, 10, 11, MOST}) D.due("l " + l, x.hold(0, 1, l, 1), -2);
    D.due("nothing is held", x.about(6), 0);
    D.due("l 0", x.hold(0, 1, 0, 1), 1);
    D.due("l 9", x.hold(0, 9, 9, 1), 2);
    D.due("all hold 9 with 72 on them", x.tents(0), 16);
  }

  private static void heldOrNot() {
    D.sentence("HELD (1), or not (0); 20: BAD: held (0, 1)");
    CardHouse x = new CardHouse();
    for (int h : new int[] {LEAST, -1, 2, 3, MOST}) D.due("held " + h, x.hold(0, 1, 0, h), -2);
    D.due("nothing is held", x.about(6), 0);
    D.due("held", x.hold(0, 3, 0, 1), 1);
    D.due("worn and heavy", x.tents(0), 8);
    D.due("not held", x.hold(0, 4, 0, 0), 2);
    D.due("worn", x.tents(0), 4);
  }

  private static CardHouse full() {
    CardHouse x = new CardHouse();
    for (int i = 0; i < 6; i++) x.hold(i % 2, 1, 0, 1);
    return x;
  }

  private static void six() {
    D.sentence("6 such at most, none at first; 20: FULL: 6");
    CardHouse x = new CardHouse();
    D.due("none", x.about(6), 0);
    for (int i = 1; i <= 6; i++) D.due("hold", x.hold(0, 1, 0, 1), i);
    D.due("one more", x.hold(0, 1, 0, 1), -4);
    D.due("of the other", x.hold(1, 9, 0, 1), -4);
    D.due("six", x.about(6), 6);
    D.due("what is refused does not count", x.tents(0), 16);
  }

  private static void badAheadOfFull() {
    D.sentence("20: BAD; FULL: of several what is told first");
    CardHouse x = full();
    D.due("w", x.hold(2, 1, 0, 1), -2);
    D.due("f", x.hold(0, 10, 0, 1), -2);
    D.due("l", x.hold(0, 1, 10, 1), -2);
    D.due("held", x.hold(0, 1, 0, 2), -2);
    D.due("none of them", x.hold(0, 1, 0, 1), -4);
  }

  private static void unholdNoneAndAll() {
    D.sentence("21: Nothing is HELD: how much there was");
    CardHouse x = new CardHouse();
    D.due("none", x.unhold(), 0);
    CardHouse y = full();
    D.due("six", y.unhold(), 6);
    D.due("none then", y.about(6), 0);
    D.due("none again", y.unhold(), 0);
    D.due("one can be held", y.hold(0, 9, 0, 1), 1);
    D.due("none can be so", y.tents(0), 0);
    D.due("one", y.unhold(), 1);
    D.due("all can be so", y.tents(0), 16);
    D.due("and the first", y.tents(1), 0);
    y.hold(1, 4, 0, 1);
    D.due("heavy is the other", y.tents(1), 3);
    D.due("one of the other", y.unhold(), 1);
    D.due("all can be so again", y.tents(0), 16);
    for (int i = 1; i <= 6; i++) D.due("six again", y.hold(1, 1, 0, 1), i);
    D.due("not seven", y.hold(1, 1, 0, 1), -4);
  }

  private static void tentsBad() {
    D.sentence("22: what = 0, 1. BAD");
    CardHouse x = full();
    for (int what : new int[] {LEAST, -1, 2, 3, MOST}) D.due("what " + what, x.tents(what), -2);
    D.due("0", x.tents(0), 16);
    D.due("1", x.tents(1), 0);
  }

  private static void sixteen() {
    D.sentence("KINDS of both by which all that is HELD is so: how many (16 there are)");
    D.due("nothing is held", new CardHouse().tents(0), 16);
    CardHouse x = new CardHouse();
    x.hold(0, 4, 0, 1);
    D.due("one of four", x.tents(0), 4);
    x.hold(1, 4, 0, 1);
    D.due("one", x.tents(0), 1);
  }

  private static void noneAtAll() {
    D.sentence("22: how many, the first one; NONE");
    CardHouse x = new CardHouse();
    x.hold(1, 9, 0, 1);
    D.due("none", x.tents(0), 0);
    D.due("no first one", x.tents(1), -9);
    x.unhold();
    x.hold(0, 9, 0, 1);
    D.due("none of the one", x.tents(0), 0);
    D.due("no first one of the one", x.tents(1), -9);
    x.unhold();
    // Each by itself can be, both together can not.
    x.hold(0, 3, 0, 1);
    x.hold(0, 3, 0, 0);
    D.due("not both", x.tents(0), 0);
    D.due("no first one of not both", x.tents(1), -9);
  }

  private static void firstOne() {
    D.sentence("the first one (10 times the one and the other)");
    // What holds so much and no more is of one kind: waxed 1, plain 2, worn 3, heavy 4.
    int[] most = {2, 3, 1, 4};
    for (int a = 0; a < 4; a++) {
      for (int b = 0; b < 4; b++) {
        CardHouse x = new CardHouse();
        x.hold(0, most[a], 0, 1);
        x.hold(0, most[a] + 1, 0, 0);
        x.hold(1, most[b], 0, 1);
        x.hold(1, most[b] + 1, 0, 0);
        D.due("how many", x.tents(0), 1);
        D.due("which", x.tents(1), 10 * a + b);
      }
    }
  }

  private static void justEnough() {
    D.sentence("a TENT HOLDS it, if .. together are 8 f or more (8 times l on it)");
    // 72 are wanted: plain has 16, worn 24, waxed 8, heavy 32 of its own.
    int[] kinds = {0, 0, 0, 0, 0, 1, 2, 3, 4, 4};
    int[] first = {-9, -9, -9, -9, -9, 30, 10, 0, 0, 0};
    for (int l = 0; l < 10; l++) {
      CardHouse x = new CardHouse();
      x.hold(0, 9, l, 1);
      D.due("holding 9 with " + l, x.tents(0), 4 * kinds[l]);
      D.due("the first with " + l, x.tents(1), first[l]);
      x.unhold();
      x.hold(1, 9, l, 0);
      D.due("not holding 9 with " + l, x.tents(0), 16 - 4 * kinds[l]);
    }
  }
}
