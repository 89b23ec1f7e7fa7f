/** Boundary cases of SLOTS: promises 27 and 28, a test for each sentence. */
public final class EdgesSlotsTest {
  private static final Due D = new Due();
  private static final int[] NO_SLOT = {Integer.MIN_VALUE, -2, -1, 2, 3, 32, 33, Integer.MAX_VALUE};

  public static void main(String[] args) {
    keepUnknown();
    keepNoneAndAll();
    keepOver();
    keepLeavesActs();
    againUnknown();
    againNoneKept();
    againNoActs();
    againAsKept();
    againLeavesTheRest();
    againAndAgain();
    D.end();
  }

  private static void keepUnknown() {
    D.sentence("SLOTS 0 .. 1; 27: UNKNOWN");
    CardHouse x = Due.built("C9999Pa0");
    for (int slot : NO_SLOT) D.due("keep " + slot, x.keep(slot), -1);
    D.due("nothing was kept in 0", x.again(0), -3);
    D.due("nothing was kept in 1", x.again(1), -3);
    D.due("keep 0", x.keep(0), 1);
    D.due("keep 1", x.keep(1), 1);
  }

  private static void keepNoneAndAll() {
    D.sentence("27: They are kept: PIECES that are there");
    CardHouse x = new CardHouse();
    D.due("none", x.keep(1), 0);
    D.due("none were there, but they were kept", x.again(1), 0);
    CardHouse y = Due.built(Ground.WHOLE);
    D.due("all", y.keep(0), 16);
    y.draught(0, 9);
    D.due("none then", y.keep(1), 0);
    D.due("all again", y.again(0), 16);
    D.due("none again", y.again(1), 0);
  }

  private static void keepOver() {
    D.sentence("27: keep (what was kept ahead)");
    CardHouse x = Due.built("C9999Pa0");
    x.keep(0);
    x.keep(1);
    x.put(1, 0);
    D.due("kept over", x.keep(0), 2);
    x.take(1);
    D.due("the last that was kept", x.again(0), 2);
    D.due("the other is as it was", x.again(1), 1);
  }

  private static void keepLeavesActs() {
    D.sentence("27: keep (ACTS stay)");
    CardHouse x = Due.built("C9999Pa0");
    x.put(1, 0);
    x.keep(0);
    D.due("acts", x.about(5), 1);
    D.due("undo", x.undo(), 0);
    D.due("undone", x.about(1), 1);
    D.due("as kept", x.again(0), 2);
  }

  private static void againUnknown() {
    D.sentence("28: UNKNOWN");
    CardHouse x = Due.built("C9999Pa0");
    x.keep(0);
    x.keep(1);
    x.put(1, 0);
    for (int slot : NO_SLOT) D.due("again " + slot, x.again(slot), -1);
    D.due("nothing is changed", x.about(1), 3);
    D.due("acts stay", x.about(5), 1);
  }

  private static void againNoneKept() {
    D.sentence("28: LATE: none were kept");
    CardHouse x = new CardHouse();
    D.due("new 0", x.again(0), -3);
    D.due("new 1", x.again(1), -3);
    CardHouse y = Due.built("C9999Pa0");
    y.put(1, 0);
    y.keep(1);
    D.due("only the other", y.again(0), -3);
    D.due("acts stay", y.about(5), 1);
    y.house();
    D.due("gone by a new house", y.again(1), -3);
    D.due("what stands", y.about(1), 1);
    Due.tell(y, "C9999Pa");
    y.keep(0);
    y.house();
    D.due("not gone by a fault", y.again(0), 1);
  }

  private static void againNoActs() {
    D.sentence("no ACTS when one goes on");
    CardHouse x = Due.built("C9999Pa0");
    for (int i = 0; i < 16; i++) {
      if (i % 2 == 0) x.put(1, 0);
      else x.take(1);
    }
    x.keep(0);
    D.due("full", x.about(5), 14);
    x.again(0);
    D.due("none", x.about(5), 0);
    D.due("undo", x.undo(), -3);
    for (int i = 1; i <= 15; i++) {
      x.draught(3, 1);
      D.due("acts anew", x.about(5), Math.min(i, 14));
    }
  }

  private static void againAsKept() {
    D.sentence("SLOTS keep PIECES, KINDS, how many FELL; 28: They are as they were kept");
    CardHouse x = Due.built("C9999Pa1Pb2Pe1");
    x.put(7, 3);
    x.put(4, 0);
    D.due("keep", x.keep(0), 3);
    x.draught(0, 9);
    x.put(0, 3);
    x.put(1, 3);
    x.put(4, 3);
    D.due("fell more", x.about(3), 5);
    D.due("again", x.again(0), 3);
    D.due("pieces", x.about(1), 19);
    int[] kinds = {1, 2, -9, -9, 0};
    for (int p = 0; p < 5; p++) D.due("kind of " + p, x.piece(p, 0), kinds[p]);
    D.due("fell", x.about(3), 2);
    int[] cards = {26, 25, 25, 27};
    for (int k = 0; k < 4; k++) D.due("deck " + k, x.deck(k), cards[k]);
  }

  private static void againLeavesTheRest() {
    D.sentence("SLOTS keep PIECES, KINDS, how many FELL (no other thing)");
    CardHouse x = Due.built("C9999Pa0");
    x.keep(0);
    x.hold(0, 4, 0, 1);
    x.seed(-3);
    x.write('P');
    x.again(0);
    D.due("held", x.about(6), 1);
    D.due("tents", x.tents(1), 30);
    D.due("seed", x.seed(0), -3);
    D.due("text", x.about(7), 9);
  }

  private static void againAndAgain() {
    D.sentence("28: again (it stays kept)");
    CardHouse x = Due.built("C9999Pa0");
    x.keep(1);
    for (int i = 0; i < 4; i++) {
      x.put(1, i);
      x.draught(0, 9);
      D.due("again", x.again(1), 1);
      D.due("kind", x.piece(0, 0), 0);
      D.due("fell", x.about(3), 0);
    }
  }
}
