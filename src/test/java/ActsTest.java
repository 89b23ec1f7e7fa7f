/** Promises 9 to 12: pieces put and taken, draughts, and all of it undone. */
public final class ActsTest {
  private static final Due D = new Due();

  public static void main(String[] args) {
    promise9Put();
    promise9PutFalls();
    promise10Take();
    promise11Draught();
    promise12Undo();
    promise12UndoForgets();
    promise12UndoAllOfIt();
    D.end();
  }

  private static void promise9Put() {
    CardHouse x = Due.built("C1100");
    D.due("9 piece below", x.put(-1, 0), -1);
    D.due("9 piece above", x.put(16, 0), -1);
    D.due("9 kind below", x.put(0, -1), -1);
    D.due("9 kind above", x.put(0, 4), -1);
    D.due("9 no cards of it", x.put(0, 2), -3);
    D.due("9 nothing under it", x.put(4, 0), -3);
    D.due("9 refusals are no acts", x.about(5), 0);
    D.due("9 put", x.put(0, 0), 0);
    D.due("9 there", x.put(0, 1), -4);
    D.due("9 unknown ahead of full", x.put(0, 4), -1);
    D.due("9 full ahead of late", x.put(0, 3), -4);
    D.due("9 one card is too few for a tent", x.put(1, 0), -3);
    D.due("9 one side of a flat", x.put(4, 0), -3);
    D.due("9 put 1", x.put(1, 1), 0);
    D.due("9 one card is enough for a flat", x.put(4, 0), 0);
    D.due("9 deck", x.deck(0), 0);
    D.due("9 kind", x.piece(4, 0), 0);
    D.due("9 acts", x.about(5), 3);
  }

  private static void promise9PutFalls() {
    // The worn flat bears 30: a plain tent of 16, not a heavy one of 32.
    CardHouse x = Due.built("C9909Pa0Pb0Pe1");
    D.due("9 falls with what it is on", x.put(7, 3), 2);
    D.due("9 what is left", x.about(1), 3);
    D.due("9 fell", x.about(3), 2);
    D.due("9 cards are back", x.deck(1), 27);
    // Just what it bears is borne: 30 on worn tent 1.
    CardHouse y = Due.built("C9999Pa0Pb1Pc0Pe3Pf0Ph0Pi0");
    D.due("9 load", y.piece(1, 2), 28);
    D.due("9 taken", y.take(8), 2);
    D.due("9 worn instead", y.put(8, 1), 0);
    // Heavy instead: 36 on tent 1, which falls with the flats and the tents on them.
    y.take(8);
    D.due("9 a tent beneath falls", y.put(8, 3), 5);
    D.due("9 left", y.about(1), 5);
    D.due("9 fell in all", y.about(3), 5);
    // What is too weak far below falls at once: waxed tent 8 has 48 of 45, plain flat 5 has 64 of 60.
    CardHouse z = Due.built(Due.rows("C9999", "abcdefg", 0) + Due.rows("", "hi", 2) + "Pj1Pk2Pl2Pm3");
    D.due("9 before", z.about(0), 13);
    D.due("9 load of 9", z.piece(9, 2), 4);
    D.due("9 heavy 13", z.put(13, 3), 0);
    D.due("9 load of 9 then", z.piece(9, 2), 20);
    D.due("9 load of 8", z.piece(8, 2), 40);
    D.due("9 load of 5", z.piece(5, 2), 56);
    D.due("9 heavy flat", z.put(14, 3), 7);
    D.due("9 what stands", z.about(1), 1023 - 32 - 256);
    D.due("9 fell by it", z.about(3), 7);
  }

  private static void promise10Take() {
    CardHouse x = Due.built("C9000Pa0Pb0Pe0Ph0");
    D.due("10 below", x.take(-1), -1);
    D.due("10 above", x.take(16), -1);
    D.due("10 not there", x.take(2), -3);
    D.due("10 a flat is on it", x.take(0), -3);
    D.due("10 a tent is on it", x.take(4), -3);
    D.due("10 no act", x.about(5), 0);
    D.due("10 tent", x.take(7), 2);
    D.due("10 flat", x.take(4), 1);
    D.due("10 deck", x.deck(0), 23);
    D.due("10 lowest", x.take(1), 2);
    D.due("10 what is left", x.about(1), 1);
    D.due("10 nothing fell", x.about(3), 0);
    D.due("10 acts", x.about(5), 3);
  }

  private static void promise11Draught() {
    CardHouse x = Due.built("C9999Pa0Pb1Pc2Pd3");
    D.due("11 level below", x.draught(-1, 1), -1);
    D.due("11 level above", x.draught(4, 1), -1);
    D.due("11 unknown ahead of bad", x.draught(4, 0), -1);
    D.due("11 force below", x.draught(0, 0), -2);
    D.due("11 force above", x.draught(0, 10), -2);
    D.due("11 no act", x.about(5), 0);
    D.due("11 all hold 8", x.draught(0, 1), 0);
    D.due("11 an empty level", x.draught(3, 9), 0);
    D.due("11 waxed has 8", x.draught(0, 2), 1);
    D.due("11 left", x.about(1), 11);
    D.due("11 plain has 16", x.draught(0, 3), 1);
    D.due("11 worn has 24", x.draught(0, 4), 1);
    D.due("11 heavy has 32", x.draught(0, 4), 0);
    D.due("11 not 40", x.draught(0, 5), 1);
    D.due("11 fell", x.about(3), 4);
    D.due("11 acts", x.about(5), 7);
    // Load helps to hold, and what falls takes along what is on it, of other levels too.
    CardHouse y = Due.built("C9999Pa0Pb0Pc0Pe0Pf0Ph0");
    D.due("11 load of 0", y.piece(0, 2), 12);
    D.due("11 load of 1", y.piece(1, 2), 16);
    D.due("11 load of 2", y.piece(2, 2), 4);
    D.due("11 all at once", y.draught(0, 4), 5);
    D.due("11 tent 1 held by the load it had", y.about(1), 2);
  }

  private static void promise12Undo() {
    CardHouse x = Due.built("C9909Pa0Pb0Pe1");
    D.due("12 none", x.undo(), -3);
    x.put(7, 3);
    D.due("12 fell", x.about(3), 2);
    D.due("12 a put", x.undo(), 0);
    D.due("12 all back", x.about(1), 19);
    D.due("12 fell undone", x.about(3), 0);
    D.due("12 deck", x.deck(1), 26);
    D.due("12 kind", x.piece(4, 0), 1);
    x.take(4);
    x.draught(0, 9);
    D.due("12 nothing", x.about(1), 0);
    D.due("12 a draught", x.undo(), 1);
    D.due("12 back", x.about(1), 3);
    D.due("12 a taking", x.undo(), 0);
    D.due("12 back again", x.about(1), 19);
    D.due("12 its kind", x.piece(4, 0), 1);
    D.due("12 none left", x.undo(), -3);
    x.take(4);
    x.put(4, 3);
    D.due("12 another kind", x.piece(4, 0), 3);
    x.undo();
    x.undo();
    D.due("12 the kind it was", x.piece(4, 0), 1);
  }

  private static void promise12UndoForgets() {
    CardHouse x = Due.built("C9000");
    x.put(3, 0);
    x.put(2, 0);
    for (int i = 0; i < 13; i++) {
      if (i % 2 == 0) x.put(0, 0);
      else x.take(0);
    }
    D.due("12 fourteen at most", x.about(5), 14);
    for (int i = 13; i >= 0; i--) D.due("12 undo", x.undo(), i);
    D.due("12 the first is forgotten", x.undo(), -3);
    D.due("12 so it stays", x.about(1), 8);
  }

  /** Twenty acts, of which six are forgotten: each step back has the kinds and what fell of its time. */
  private static void promise12UndoAllOfIt() {
    CardHouse y = Due.built("C9999");
    for (int i = 0; i < 10; i++) {
      y.put(0, i % 4);
      y.draught(0, 9);
    }
    for (int i = 9; i >= 3; i--) {
      y.undo();
      D.due("12 kind of " + i, y.piece(0, 0), i % 4);
      D.due("12 fell at " + i, y.about(3), i);
      y.undo();
      D.due("12 gone at " + i, y.piece(0, 0), -9);
      D.due("12 fell ahead of " + i, y.about(3), i);
    }
    D.due("12 no more", y.undo(), -3);
  }
}
