/** Promises 27 and 28: what is kept and gone on from. */
public final class SlotsTest {
  private static final Due D = new Due();

  public static void main(String[] args) {
    promise27Keep();
    promise28Again();
    D.end();
  }

  private static void promise27Keep() {
    CardHouse x = Due.built("C9999Pa0Pb0");
    D.due("27 below", x.keep(-1), -1);
    D.due("27 above", x.keep(2), -1);
    x.put(4, 3);
    D.due("27 keep", x.keep(0), 3);
    D.due("27 acts stay", x.about(5), 1);
    D.due("27 undo still", x.undo(), 0);
    D.due("27 keep the other", x.keep(1), 2);
    D.due("27 the first is not touched", x.again(0), 3);
    x.draught(0, 9);
    D.due("27 kept over", x.keep(0), 0);
    D.due("27 the last keeping counts", x.again(0), 0);
    D.due("27 the other stays", x.again(1), 2);
  }

  private static void promise28Again() {
    CardHouse x = Due.built("C9999Pa0Pb0Pe1");
    D.due("28 below", x.again(-1), -1);
    D.due("28 above", x.again(2), -1);
    D.due("28 none kept", x.again(0), -3);
    x.put(7, 3);
    D.due("28 fell", x.about(3), 2);
    x.put(4, 2);
    x.keep(1);
    D.due("28 the other is not kept", x.again(0), -3);
    D.due("28 late leaves the acts", x.about(5), 2);
    x.draught(0, 9);
    x.put(0, 1);
    D.due("28 fell more", x.about(3), 5);
    D.due("28 again", x.again(1), 3);
    D.due("28 pieces", x.about(1), 19);
    D.due("28 kind", x.piece(4, 0), 2);
    D.due("28 kind of 0", x.piece(0, 0), 0);
    D.due("28 fell as kept", x.about(3), 2);
    D.due("28 no acts", x.about(5), 0);
    D.due("28 no undo", x.undo(), -3);
    D.due("28 deck", x.deck(2), 26);
    x.take(4);
    D.due("28 once more", x.again(1), 3);
    D.due("28 as it was kept", x.about(1), 19);
  }
}
