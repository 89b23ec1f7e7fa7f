/** Boundary cases of PIECES, KINDS, LOAD, BEARS, SETTLED: promises 6 to 8, a test for each sentence. */
public final class EdgesHouseTest {
  private static final Due D = new Due();

  public static void main(String[] args) {
    cardsOfPieces();
    cardsWeigh();
    loads();
    tentsBear();
    flatsBear();
    allAtOnce();
    fallsWithAllOnIt();
    aboutWhat();
    aboutNoneAndAll();
    aboutLevel();
    aboutFell();
    aboutActsHeldBytes();
    deckOfKind();
    deckEmptyAndFull();
    pieceUnknown();
    pieceBad();
    pieceNotThere();
    pieceRefusals();
    pieceTaken();
    D.end();
  }

  private static void cardsOfPieces() {
    D.sentence("A TENT is of 2 CARDS, a FLAT of 1");
    CardHouse x = Due.built("C9000");
    int left = 27;
    for (int p = 0; p < 16; p++) {
      x.put(p, 0);
      left -= Ground.cards(p);
      D.due("deck with " + p, x.deck(0), left);
    }
  }

  private static void cardsWeigh() {
    D.sentence("A CARD weighs 8, a HEAVY one 16");
    for (int kind = 0; kind < 4; kind++) {
      for (int p = 0; p < 16; p++) {
        CardHouse x = Due.built(Ground.upTo(p));
        x.put(p, kind);
        D.due(p + " of " + kind, x.piece(p, 1), Ground.cards(p) * (kind == 3 ? 16 : 8));
      }
    }
  }

  private static void loads() {
    D.sentence("LOAD of a PIECE");
    CardHouse x = Due.built(Due.rows("C9000", "abcdefghijklmnop", 0));
    int[] due = {21, 51, 51, 21, 34, 52, 34, 18, 36, 18, 28, 28, 12, 12, 16, 0};
    for (int p = 0; p < 16; p++) D.due("of " + p, x.piece(p, 2), due[p]);
    for (int p = 0; p < 16; p++) {
      CardHouse y = Due.built(Ground.upTo(p));
      y.put(p, 1);
      D.due("nothing on " + p, y.piece(p, 2), 0);
    }
  }

  private static void borne(String pieces, int piece, int load) {
    CardHouse x = new CardHouse();
    Due.tell(x, "C9999" + pieces);
    D.due("all stand of " + pieces, x.house(), pieces.length() / 3);
    D.due("load of " + piece, x.piece(piece, 2), load);
  }

  /** Only this one is too weak, by the least that can be told: it goes with all that is on it. */
  private static void notBorne(String pieces, int piece, int left) {
    CardHouse x = new CardHouse();
    Due.tell(x, "C9999" + pieces);
    D.due("some stand of " + pieces, x.house(), left);
    D.due("not " + piece, x.piece(piece, 0), -9);
  }

  private static void tentsBear() {
    D.sentence("BEARS: PLAIN 60, WORN 30, WAXED 45, HEAVY 80 (a TENT)");
    borne("Pb3Pc0Pd2Pf3Pg3Pi3Pj3Pl0Pn2", 2, 60);
    notBorne("Pa1Pb3Pc0Pd0Pe3Pf3Pg3Ph0Pi0Pj0Pk3Pl0Pm2Pn2Po0Pp2", 2, 5);
    borne("Pa3Pb3Pc1Pe2Pf3Ph0Pi3Pk2Pm2", 2, 30);
    notBorne("Pa1Pb3Pc3Pd3Pe3Pf3Pg3Ph3Pi3Pj3Pk0Pl3Pm2Pn2Po0", 0, 9);
    borne("Pa0Pb2" + Due.rows("", "cdefghijklmno", 0), 1, 45);
    notBorne("Pa2Pb3Pc2Pd2Pe3Pf3Pg2Ph0Pi3Pj3Pk0", 2, 5);
    borne("Pa3Pb3Pc3Pd3Pe3Pf3Pg2Ph3Pi0Pj2Pk3Pl0Pm1Pn0Po3Pp3", 1, 80);
    notBorne("Pa2Pb3Pc3Pd2Pe0Pf3Pg3Ph0Pi0Pj3Pk3Pl3Pm2Pn3Po2Pp0", 2, 5);
  }

  private static void flatsBear() {
    D.sentence("BEARS (whatever PIECE it is) (a FLAT)");
    borne("Pa0Pb3Pc3Pd2Pe3Pf0Pg3Ph3Pi3Pj3Pk0Pl3Pm3", 5, 60);
    notBorne("Pa1Pb3Pc3Pd3Pe3Pf3Pg0Ph1Pi0Pj3Pk3Pl3Pm1Pn3Po1Pp1", 6, 10);
    borne("Pa2Pb0Pc0Pd0Pe1Pf0Pg2Ph1Pi0Pj2Pk1Pl0Pm0Pn2Po1", 4, 30);
    notBorne("Pb0Pc2Pf1Pi3", 5, 2);
    borne("Pb3Pc0Pd3Pf3Pg2Pi3Pj3Pl2Pn2", 6, 44);
    notBorne("Pa2Pb3Pc3Pd3Pe3Pf3Pg2Ph3Pi0Pj1Pk3Pl3Pm2Pn3Po2Pp0", 6, 10);
    borne("Pa0Pb3Pc3Pd3Pe0Pf3Pg3Ph2Pi3Pj2Pk3Pl2Pm2Pn1Po2Pp3", 5, 80);
    notBorne("Pa0Pb3Pc3Pd3Pe3Pf3Pg2Ph1Pi3Pj1Pk0Pl0Pm3Pn3Po2Pp2", 5, 8);
  }

  private static void allAtOnce() {
    D.sentence("SETTLED: as long as any PIECE is too weak, all that are fall, at once");
    CardHouse x = Due.built("C9909Pa1Pb0Pc3Pe1Pf1Ph1");
    D.due("only the flat is too weak", x.put(8, 3), 2);
    D.due("plain tent 1 stands", x.about(1), 1 | 2 | 4 | 16 | 128);
    // Worn tent 1 has 32 on it with the flat; without it there would be 12, but it falls at once.
    CardHouse y = Due.built("C9909Pa1Pb1Pc3Pe1Pf1Ph1");
    D.due("load of worn tent 1", y.piece(1, 2), 16);
    D.due("both are too weak", y.put(8, 3), 5);
    D.due("the tent fell with the flat", y.about(1), 1 | 4);
    // Worn tents 1 and 2 have 36 each; one falling first would leave 12 on the other.
    CardHouse z = Due.built("C9909Pa3Pb1Pc1Pd3Pe0Pf3Pg0Ph0Pj0");
    D.due("20 on tent 1", z.piece(1, 2), 20);
    D.due("20 on tent 2", z.piece(2, 2), 20);
    D.due("both fall side by side", z.put(8, 3), 8);
    D.due("the outer ones stand", z.about(1), 1 | 8);
  }

  private static void fallsWithAllOnIt() {
    D.sentence("FALLS: a PIECE that falls, all that is on it .. are gone (their CARDS are in THE DECK)");
    CardHouse x = Due.built(Due.rows("C9000", "abcdefghijklmno", 0));
    D.due("15 pieces", x.about(0), 15);
    D.due("draught that all of level 2 do not hold", x.draught(2, 3), 3);
    D.due("tents 12, 13 and the flat on them", x.about(1), 4095);
    D.due("five cards", x.deck(0), 8);
    CardHouse y = Due.built(Ground.WHOLE);
    D.due("all by the lowest", y.draught(0, 9), 16);
    D.due("none is left", y.about(1), 0);
    D.due("all cards", y.about(2), 54);
    D.due("all fell", y.about(3), 16);
  }

  private static void aboutWhat() {
    D.sentence("6: what = 0 .. 7. BAD");
    CardHouse x = Due.built(Ground.WHOLE);
    int[] bad = {Integer.MIN_VALUE, -9, -1, 8, 9, 16, 32, Integer.MAX_VALUE};
    for (int what : bad) D.due("about " + what, x.about(what), -2);
    int[] due = {16, 65535, 28, 0, 3, 0, 0, 53};
    for (int what = 0; what < 8; what++) D.due("about " + what, x.about(what), due[what]);
  }

  private static void aboutNoneAndAll() {
    D.sentence("6: PIECES that are there (0), which (1: bits), CARDS in THE DECK (2)");
    CardHouse x = Due.built("C9000");
    int bits = 0;
    int left = 27;
    D.due("none", x.about(0), 0);
    D.due("no bits", x.about(1), 0);
    for (int p = 0; p < 16; p++) {
      x.put(p, 0);
      bits |= 1 << p;
      left -= Ground.cards(p);
      D.due("how many with " + p, x.about(0), p + 1);
      D.due("which with " + p, x.about(1), bits);
      D.due("cards with " + p, x.about(2), left);
    }
  }

  private static void aboutLevel() {
    D.sentence("6: the highest LEVEL of a PIECE (4; NONE)");
    CardHouse x = Due.built("C9000");
    D.due("none", x.about(4), -9);
    for (int p = 0; p < 16; p++) {
      x.put(p, 0);
      D.due("with " + p, x.about(4), Ground.LEVEL[p]);
    }
    for (int p = 15; p > 0; p--) {
      x.take(p);
      D.due("without " + p, x.about(4), Ground.LEVEL[p - 1]);
    }
    x.take(0);
    D.due("none again", x.about(4), -9);
  }

  private static void aboutFell() {
    D.sentence("6: how many PIECES FELL in all (3: not what was TAKEN)");
    CardHouse x = Due.built("C9999Pa0Pb0Pe1");
    x.take(4);
    D.due("taken", x.about(3), 0);
    x.put(4, 1);
    D.due("put", x.about(3), 0);
    x.put(7, 3);
    D.due("what is put and falls at once counts", x.about(3), 2);
    x.draught(0, 3);
    D.due("together", x.about(3), 4);
    x.draught(0, 9);
    D.due("none more", x.about(3), 4);
    x.put(0, 2);
    D.due("put again", x.about(3), 4);
    x.draught(0, 2);
    D.due("fell again", x.about(3), 5);
  }

  private static void aboutActsHeldBytes() {
    D.sentence("6: ACTS (5), HELD (6), bytes of THE TEXT (7)");
    CardHouse x = new CardHouse();
    for (int i = 1; i <= 20; i++) {
      x.draught(0, 1);
      D.due("acts " + i, x.about(5), Math.min(i, 14));
    }
    for (int i = 1; i <= 8; i++) {
      x.hold(0, 1, 0, 1);
      D.due("held " + i, x.about(6), Math.min(i, 6));
    }
    for (int i = 1; i <= 60; i++) {
      x.write(i);
      D.due("bytes " + i, x.about(7), Math.min(i, 56));
    }
  }

  private static void deckOfKind() {
    D.sentence("7: CARDS of a KIND in THE DECK. UNKNOWN");
    CardHouse x = Due.built("C1234");
    int[] unknown = {Integer.MIN_VALUE, -4, -1, 4, 5, 32, Integer.MAX_VALUE};
    for (int kind : unknown) D.due("deck " + kind, x.deck(kind), -1);
    for (int kind = 0; kind < 4; kind++) D.due("deck " + kind, x.deck(kind), 3 + 3 * kind);
  }

  private static void deckEmptyAndFull() {
    D.sentence("7: CARDS of a KIND in THE DECK (none, all)");
    CardHouse x = Due.built("C2900Pa0Pb0");
    D.due("two left", x.deck(0), 2);
    x.put(2, 0);
    D.due("none left", x.deck(0), 0);
    D.due("of the other all", x.deck(1), 27);
    x.draught(0, 9);
    D.due("all are back", x.deck(0), 6);
  }

  private static void pieceUnknown() {
    D.sentence("8: UNKNOWN");
    CardHouse x = Due.built(Ground.WHOLE);
    int[] unknown = {Integer.MIN_VALUE, -16, -1, 16, 17, 32, 47, Integer.MAX_VALUE};
    for (int p : unknown) {
      for (int what = 0; what < 5; what++) D.due("piece " + p, x.piece(p, what), -1);
    }
    D.due("the first", x.piece(0, 0), 0);
    D.due("the last", x.piece(15, 0), 1);
  }

  private static void pieceBad() {
    D.sentence("8: what = 0 .. 4; BAD");
    CardHouse x = Due.built("C9999Pa1");
    int[] bad = {Integer.MIN_VALUE, -1, 5, 6, Integer.MAX_VALUE};
    for (int what : bad) D.due("what " + what, x.piece(0, what), -2);
    int[] due = {1, 16, 0, 30, 1};
    for (int what = 0; what < 5; what++) D.due("what " + what, x.piece(0, what), due[what]);
  }

  private static void pieceNotThere() {
    D.sentence("8: NONE: it is not there (0); LATE: it is not there (1 .. 4)");
    CardHouse x = Due.built("C9999Pa1");
    for (int p = 1; p < 16; p++) {
      D.due("kind of " + p, x.piece(p, 0), -9);
      for (int what = 1; what < 5; what++) D.due(what + " of " + p, x.piece(p, what), -3);
    }
    x.take(0);
    D.due("kind when taken", x.piece(0, 0), -9);
    D.due("load when taken", x.piece(0, 2), -3);
  }

  private static void pieceRefusals() {
    D.sentence("8: UNKNOWN; BAD; LATE: of several what is told first");
    CardHouse x = new CardHouse();
    D.due("unknown and bad", x.piece(16, 5), -1);
    D.due("unknown and bad, below", x.piece(-1, -1), -1);
    D.due("bad and not there", x.piece(0, 5), -2);
    D.due("bad and not there, below", x.piece(0, -1), -2);
    D.due("not there", x.piece(0, 4), -3);
  }

  private static void pieceTaken() {
    D.sentence("8: 1 if it can be TAKEN (4)");
    CardHouse x = Due.built(Due.rows("C9000", "abcdefghijklmnop", 0));
    for (int p = 15; p >= 0; p--) {
      D.due(p + " with nothing on it", x.piece(p, 4), 1);
      for (int q : Ground.ON[p]) D.due(q + " under " + p, x.piece(q, 4), 0);
      x.take(p);
    }
  }
}
