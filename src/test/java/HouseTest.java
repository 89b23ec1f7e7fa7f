/** Promises 1 to 8: a new object, the text and its fault, the house and what is in it. */
public final class HouseTest {
  private static final Due D = new Due();

  public static void main(String[] args) {
    promise1NewObject();
    promise2Write();
    promise3Wipe();
    promise4Fault();
    promise5House();
    promise6About();
    promise7Deck();
    promise8Piece();
    D.end();
  }

  private static void promise1NewObject() {
    CardHouse x = new CardHouse();
    int[] due = {0, 0, 0, 0, -9, 0, 0, 0};
    for (int what = 0; what < 8; what++) D.due("1 about " + what, x.about(what), due[what]);
    for (int kind = 0; kind < 4; kind++) D.due("1 deck", x.deck(kind), 0);
    D.due("1 seed", x.seed(0), 0);
    D.due("1 tents", x.tents(0), 16);
    D.due("1 again 0", x.again(0), -3);
    D.due("1 again 1", x.again(1), -3);
    D.due("1 put", x.put(0, 0), -3);
    D.due("1 undo", x.undo(), -3);
  }

  private static void promise2Write() {
    CardHouse x = new CardHouse();
    D.due("2 below", x.write(-1), -2);
    D.due("2 above", x.write(256), -2);
    D.due("2 nothing came", x.about(7), 0);
    D.due("2 least", x.write(0), 1);
    D.due("2 most", x.write(255), 2);
    for (int i = 3; i <= 56; i++) D.due("2 write", x.write('P'), i);
    D.due("2 full", x.write('P'), -4);
    D.due("2 bad ahead of full", x.write(256), -2);
    D.due("2 length", x.about(7), 56);
  }

  private static void promise3Wipe() {
    CardHouse x = Due.built("C1000Pa0");
    D.due("3 wipe", x.wipe(), 8);
    D.due("3 again", x.wipe(), 0);
    D.due("3 length", x.about(7), 0);
    D.due("3 the house stays", x.about(1), 1);
  }

  private static void fault(String text, int due) {
    CardHouse x = new CardHouse();
    Due.tell(x, text);
    D.due("4 fault of " + text, x.fault(), due);
    D.due("4 house of " + text, x.house() == -3 ? 1 : 0, due == -9 ? 0 : 1);
  }

  private static void promise4Fault() {
    fault("", 0);
    fault("c", 0);
    fault("C", 1);
    fault("C12", 3);
    fault("C/", 1);
    fault("C:", 1);
    fault("C000", 4);
    fault("C0000", -9);
    fault("C9999P", 6);
    fault("C9999Pa", 7);
    fault("C9999Pa0", -9);
    fault("C9999pa0", 5);
    fault("C99999", 5);
    fault("C9999P`0", 6);
    fault("C9999Pq0", 6);
    fault("C9999PA0", 6);
    fault("C9999Pa/", 7);
    fault("C9999Pa4", 7);
    fault("C9999Pa0Pa1", 9);
    fault("C9999Pa0Pe0", 9);
    fault("C9999Pa0Pb0Pe0", -9);
    fault("C9999Pa0Pb0Ph0", 12);
    fault("C9999Pa0Pb0Pe0Ph0", -9);
    fault("C9999Pa0Pb0Pe0Ph0 ", 17);
    // Three cards of one kind: a tent, and a flat only where it could lie.
    fault("C0100Pa0", 7);
    fault("C0100Pa1P", 8);
    fault("C0100Pa1Pb", 8);
    // One card of each of two kinds is left: enough for the flat, not for a tent.
    fault("C1100Pa0Pb1P", 12);
    fault("C1100Pa0Pb1Pc", 12);
    fault("C1100Pa0Pb1Pe", 13);
    fault("C1100Pa0Pb1Pe0", -9);
    fault("C1100Pa0Pb1Pe2", 13);
    fault("C1100Pa0Pb1Pe0P", 14);
    // A whole house wants 26 cards: of 24 none are left for tent 15, of one kind or in all.
    fault(Due.rows("C9000", "abcdefghijklmnop", 0), -9);
    fault(Due.rows("C8000", "abcdefghijklmnop", 0), 50);
    fault(Due.rows("C8100", "abcdefghijklmnop", 0), 52);
    // A whole house can be followed by no piece.
    String whole = Due.rows("C9900", "abcdefghi", 0) + Due.rows("", "jklmnop", 1);
    fault(whole, -9);
    fault(whole + "P", 53);
  }

  private static void promise5House() {
    CardHouse x = new CardHouse();
    D.due("5 empty text", x.house(), -3);
    Due.tell(x, "C3210Pa0Pb0");
    D.due("5 house", x.house(), 2);
    D.due("5 the text stays", x.about(7), 11);
    x.put(4, 1);
    x.keep(0);
    x.hold(0, 1, 0, 1);
    x.seed(77);
    D.due("5 act", x.about(5), 1);
    Due.tell(x, "C3210Pa");
    D.due("5 late", x.house(), -3);
    D.due("5 late changes nothing", x.about(1), 19);
    D.due("5 late leaves the acts", x.about(5), 1);
    D.due("5 late leaves what is kept", x.again(0), 3);
    x.put(2, 0);
    Due.tell(x, "C0002");
    D.due("5 anew", x.house(), 0);
    D.due("5 no acts", x.undo(), -3);
    D.due("5 what was kept is gone", x.again(0), -3);
    D.due("5 held stays", x.about(6), 1);
    D.due("5 the seed stays", x.seed(0), 77);
    D.due("5 cards anew", x.about(2), 6);
    // A worn flat under a heavy tent bears 30 of 32: both fall when it is settled, none of it FELL.
    Due.tell(x, "C0909Pa1Pb1Pe1Ph3");
    D.due("5 settled", x.house(), 2);
    D.due("5 which", x.about(1), 3);
    D.due("5 nothing fell", x.about(3), 0);
    D.due("5 cards are back", x.about(2), 50);
    // Something fell: it is forgotten by a new house.
    x.draught(0, 9);
    D.due("5 fell", x.about(3), 2);
    x.house();
    D.due("5 fell anew", x.about(3), 0);
  }

  private static void promise6About() {
    CardHouse x = Due.built("C9090Pa0Pb0Pe2Ph0");
    int[] due = {4, 147, 47, 0, 1, 0, 0, 17};
    for (int what = 0; what < 8; what++) D.due("6 about " + what, x.about(what), due[what]);
    D.due("6 bad below", x.about(-1), -2);
    D.due("6 bad above", x.about(8), -2);
    x.take(7);
    D.due("6 what is taken did not fall", x.about(3), 0);
    D.due("6 a flat's level", x.about(4), 0);
    x.draught(0, 9);
    D.due("6 fell", x.about(3), 3);
    D.due("6 no level", x.about(4), -9);
    D.due("6 acts", x.about(5), 2);
    D.due("6 cards", x.about(2), 54);
    x.hold(0, 1, 1, 1);
    D.due("6 held", x.about(6), 1);
    CardHouse y = Due.built(Due.rows("C9990", "abcdefg", 0) + Due.rows("", "hijkl", 2) + "Pm1Pn1Po1");
    D.due("6 level 2", y.about(4), 2);
    D.due("6 put 15", y.put(15, 2), 0);
    D.due("6 level 3", y.about(4), 3);
    D.due("6 all", y.about(1), 65535);
    CardHouse z = Due.built("C9009");
    int[] levels = {0, 0, 0, 0, 0, 0, 0, 1, 1, 1, 1, 1, 2, 2, 2, 3};
    for (int p = 0; p < 16; p++) {
      z.put(p, 0);
      D.due("6 level up to " + p, z.about(4), levels[p]);
    }
    CardHouse alone = Due.built("C9009Pb0");
    D.due("6 level of one", alone.about(4), 0);
  }

  private static void promise7Deck() {
    CardHouse x = Due.built("C1234Pa0Pb1Pc2Pd3Pe1");
    int[] due = {1, 3, 7, 10};
    for (int kind = 0; kind < 4; kind++) D.due("7 deck " + kind, x.deck(kind), due[kind]);
    D.due("7 below", x.deck(-1), -1);
    D.due("7 above", x.deck(4), -1);
    x.take(4);
    D.due("7 taken", x.deck(1), 4);
    x.draught(0, 3);
    D.due("7 fallen plain", x.deck(0), 3);
    D.due("7 worn held", x.deck(1), 4);
    D.due("7 fallen waxed", x.deck(2), 9);
    D.due("7 heavy held", x.deck(3), 10);
  }

  private static void promise8Piece() {
    CardHouse x = Due.built("C9999Pa0Pb1Pc2Pd3Pe3Pf0Pg1Ph2Pi3Pj0");
    int[] kinds = {0, 1, 2, 3, 3, 0, 1, 2, 3, 0};
    int[] bears = {60, 30, 45, 80, 80, 60, 30, 45, 80, 60};
    int[] weighs = {16, 16, 16, 32, 16, 8, 8, 16, 32, 16};
    int[] loads = {16, 36, 32, 12, 16, 32, 16, 0, 0, 0};
    // Worn tent 1 has 36 of 30 on it: it goes, with all that leans on it.
    D.due("8 settled", x.about(1), 1 | 4 | 8 | 64 | 512);
    x = Due.built("C9999Pa0Pb0Pc2Pd3Pe3Pf0Pg1Ph2Pi3Pj0");
    kinds[1] = 0;
    bears[1] = 60;
    for (int p = 0; p < 10; p++) {
      D.due("8 kind " + p, x.piece(p, 0), kinds[p]);
      D.due("8 weighs " + p, x.piece(p, 1), weighs[p]);
      D.due("8 load " + p, x.piece(p, 2), loads[p]);
      D.due("8 bears " + p, x.piece(p, 3), bears[p]);
      D.due("8 can be taken " + p, x.piece(p, 4), p > 6 ? 1 : 0);
    }
    D.due("8 not there", x.piece(10, 0), -9);
    for (int what = 1; what < 5; what++) D.due("8 late", x.piece(10, what), -3);
    D.due("8 below", x.piece(-1, 0), -1);
    D.due("8 above", x.piece(16, 0), -1);
    D.due("8 unknown ahead of bad", x.piece(16, 9), -1);
    D.due("8 bad ahead of late", x.piece(10, 5), -2);
    D.due("8 bad", x.piece(0, -1), -2);
  }
}
