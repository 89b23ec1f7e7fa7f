/** Promises 13 to 19: what may be, with nothing changed by asking. */
public final class MayBeTest {
  private static final Due D = new Due();

  public static void main(String[] args) {
    promise13Open();
    promise14Spread();
    promise15Stands();
    promise16Wants();
    promise17Fit();
    promise18Judge();
    promise18WrongDoings();
    promise19Share();
    nothingChanges();
    D.end();
  }

  private static void promise13Open() {
    CardHouse x = Due.built("C1103Pa0Pb1Pe3");
    D.due("13 one card: no tent, and no flat can lie", x.open(0), 0);
    D.due("13 one card of 1", x.open(1), 0);
    D.due("13 none", x.open(2), 0);
    D.due("13 heavy", x.open(3), 4 | 8 | 128);
    D.due("13 below", x.open(-1), -1);
    D.due("13 above", x.open(4), -1);
    CardHouse y = Due.built("C1109Pa0Pb1Pc3");
    D.due("13 one card: flats", y.open(0), 16 | 32);
    // What would fall at once can be put as well.
    CardHouse z = Due.built("C0909Pa1Pb1Pe1");
    D.due("13 too heavy, but open", z.open(3), 4 | 8 | 128);
  }

  private static void promise14Spread() {
    CardHouse x = Due.built(Due.rows("C9900", "abcdefghi", 0) + Due.rows("", "jkl", 1));
    D.due("14 tent 0", x.spread(0), 1 | 16 | 128 | 1024);
    D.due("14 tent 3", x.spread(3), 8 | 64 | 512 | 2048);
    D.due("14 flat 5", x.spread(5), 32 | 256 | 1024 | 2048);
    D.due("14 alone", x.spread(11), 2048);
    D.due("14 not there", x.spread(12), -3);
    D.due("14 below", x.spread(-1), -1);
    D.due("14 above", x.spread(16), -1);
  }

  private static void promise15Stands() {
    D.due("15 plain", Due.built("C9999Pa0").stands(0), 2);
    D.due("15 worn", Due.built("C9999Pa1").stands(0), 3);
    D.due("15 waxed", Due.built("C9999Pa2").stands(0), 1);
    D.due("15 heavy", Due.built("C9999Pa3").stands(0), 4);
    D.due("15 the least", Due.built("C9999Pa3Pd1").stands(0), 3);
    CardHouse x = Due.built("C9999Pa3Pb3Pc3Pe3Pf3Ph3Pi3");
    D.due("15 load of 0", x.piece(0, 2), 24);
    D.due("15 of level 0", x.stands(0), 7);
    D.due("15 of level 1", x.stands(1), 4);
    D.due("15 no tent", x.stands(2), 9);
    D.due("15 below", x.stands(-1), -1);
    D.due("15 above", x.stands(4), -1);
    // 23 lie on tents 0 and 3, one less than what would make a force more: grips to the last unit.
    int[] forces = {4, 5, 3, 6};
    for (int k = 0; k < 4; k++) {
      String text = "C9999Pa" + k + "Pb0Pc0Pd" + k + Due.rows("", "efghij", 0) + "Pk3Pl3Pm0Pn0Po0Pp1";
      CardHouse w = Due.built(text);
      D.due("15 all stand", w.about(0), 16);
      D.due("15 load", w.piece(0, 2), 23);
      D.due("15 borne to the last", w.piece(5, 2), 60);
      D.due("15 of a whole house " + k, w.stands(0), forces[k]);
      D.due("15 holds", w.draught(0, forces[k]), 0);
      D.due("15 does not hold", w.draught(0, forces[k] + 1), 12);
    }
    CardHouse y = Due.built(Due.rows("C0909", "abcdefghi", 3) + "Pj1Pk1Pl1Pm1Pn1");
    D.due("15 flats are no tents", y.stands(3), 9);
    D.due("15 force of level 2", y.stands(2), 3);
    int stood = y.stands(0);
    D.due("15 it holds that", y.draught(0, stood), 0);
    D.due("15 not one more", y.draught(0, stood + 1) > 0 ? 1 : 0, 1);
  }

  private static void promise16Wants() {
    CardHouse x = Due.built("C9000Pb0Pc0");
    D.due("16 is there", x.wants(1, 0), 0);
    D.due("16 no cards", x.wants(1, 1), 0);
    D.due("16 itself", x.wants(0, 0), 1);
    D.due("16 two cards", x.wants(0, 1), 2);
    D.due("16 a flat", x.wants(5, 1), 1);
    D.due("16 tent 8", x.wants(8, 0), 2);
    D.due("16 cards of 8", x.wants(8, 1), 3);
    D.due("16 flat 10", x.wants(10, 0), 6);
    D.due("16 cards of 10", x.wants(10, 1), 9);
    D.due("16 all", x.wants(15, 0), 14);
    D.due("16 cards of all", x.wants(15, 1), 22);
    D.due("16 below", x.wants(-1, 0), -1);
    D.due("16 above", x.wants(16, 0), -1);
    D.due("16 bad", x.wants(0, 2), -2);
    D.due("16 bad below", x.wants(0, -1), -2);
    D.due("16 unknown ahead of bad", x.wants(16, 2), -1);
  }

  private static void promise17Fit() {
    D.due("17 plain first", Due.built("C1111").fit(0), 0);
    D.due("17 worn then", Due.built("C0111").fit(0), 1);
    D.due("17 waxed then", Due.built("C0011").fit(0), 2);
    D.due("17 heavy at last", Due.built("C0001").fit(0), 3);
    CardHouse x = Due.built("C0909Pa1Pb1Pe1");
    D.due("17 nothing under it", x.fit(5), -9);
    D.due("17 there", x.fit(4), -4);
    D.due("17 below", x.fit(-1), -1);
    D.due("17 above", x.fit(16), -1);
    // A heavy tent is too much for the worn flat.
    CardHouse y = Due.built("C0109Pa3Pb3Pe1");
    D.due("17 worn has two cards", y.fit(7), 1);
    y.put(7, 1);
    y.take(7);
    y.put(2, 1);
    D.due("17 only heavy is left", y.fit(7), -9);
    D.due("17 heavy falls", y.put(7, 3), 2);
    CardHouse z = Due.built("C9999Pa0Pb0");
    z.judge(2, 20002010L);
    D.due("17 from what stands now", z.fit(4), 0);
    z.judge(1, 1020);
    D.due("17 again", z.fit(2), 0);
  }

  private static void judge(CardHouse x, int n, long row, int due) {
    D.due("18 judge " + n + " " + row, x.judge(n, row), due);
  }

  private static void promise18Judge() {
    CardHouse x = Due.built("C9909Pa0Pb0");
    judge(x, 0, 0, -2);
    judge(x, 5, 0, -2);
    judge(x, 1, -1, -2);
    judge(x, 1, 10000, -2);
    judge(x, 3, 1000000000000L, -2);
    judge(x, 4, 10000000000000000L, -2);
    judge(x, 4, Long.MAX_VALUE, -2);
    judge(x, 1, 9999, 0);
    judge(x, 2, 99999999L, 0);
    judge(x, 3, 999999999999L, 0);
    judge(x, 4, 9999999999999999L, 0);
    judge(x, 2, 100000000L, -2);
    judge(x, 1, 1040, -9);
    judge(x, 1, 2000, -9);
    judge(x, 1, 3009, -9);
    judge(x, 1, 4010, -9);
    judge(x, 1, 4020, 0);
    judge(x, 1, 5020, -9);
    judge(x, 1, 5030, 0);
    // Leading figures that are not told are 0: no doing.
    judge(x, 2, 1040, 0);
    // A doing counts for what follows: worn flat put, tent 0 no longer free.
    judge(x, 2, 10412000L, 1);
    judge(x, 3, 104120405020L, -9);
    // The heavy tent falls with the flat: it can be put, but is not there then.
    judge(x, 3, 104110734070L, 2);
    judge(x, 4, 1041107340405030L, 2);
    judge(x, 4, 1041107350201021L, -9);
    judge(x, 4, 1041107350205030L, 3);
    // A draught of force 3 takes both plain tents.
    judge(x, 2, 30035010L, 1);
    judge(x, 2, 30025020L, -9);
    judge(x, 2, 30031000L, -9);
  }

  private static void promise18WrongDoings() {
    CardHouse x = Due.built("C9909Pa0Pb0");
    judge(x, 1, 0, 0);
    judge(x, 1, 6000, 0);
    judge(x, 1, 9999, 0);
    judge(x, 1, 1024, 0);
    judge(x, 1, 1022, 0);
    judge(x, 1, 1160, 0);
    judge(x, 1, 1000, 0);
    judge(x, 1, 2001, 0);
    judge(x, 1, 2160, 0);
    judge(x, 1, 2020, 0);
    judge(x, 1, 3000, 0);
    judge(x, 1, 3041, 0);
    judge(x, 1, 3101, 0);
    judge(x, 1, 4001, 0);
    judge(x, 1, 4160, 0);
    judge(x, 1, 5001, 0);
    judge(x, 1, 5990, 0);
  }

  private static void share(CardHouse x, int tent, int above, int below) {
    D.due("19 share of " + tent, x.share(tent, true), above);
    D.due("19 below " + tent, x.share(tent, false), below);
  }

  private static void promise19Share() {
    CardHouse x = Due.built("C9999Pa0Pb0Pc0Pe0Pf0Ph0Pi0Pk0");
    // Each its own tent; e, h by halves; f, i by halves; k by thirds.
    share(x, 0, 7, 3);
    share(x, 1, 10, 3);
    share(x, 2, 7, 3);
    share(x, 3, 0, 1);
    D.due("19 below", x.share(-1, true), -1);
    D.due("19 above", x.share(4, true), -1);
    CardHouse y = Due.built("C9999Pd0");
    share(y, 3, 1, 1);
    share(y, 0, 0, 1);
    // The whole: 2 by halves, 2 by thirds at the side, and what is on them.
    CardHouse z = Due.built(Due.rows("C9900", "abcdefghi", 0) + Due.rows("", "jklmnop", 1));
    share(z, 0, 19, 6);
    share(z, 1, 29, 6);
    share(z, 2, 29, 6);
    share(z, 3, 19, 6);
  }

  private static void nothingChanges() {
    CardHouse x = Due.built("C9909Pa0Pb0Pe1");
    x.put(2, 0);
    for (int p = -1; p < 17; p++) {
      x.open(p);
      x.spread(p);
      x.stands(p);
      x.wants(p, 0);
      x.fit(p);
      x.share(p, true);
    }
    x.judge(4, 1073300920301020L);
    D.due("2 pieces", x.about(1), 23);
    D.due("2 fell", x.about(3), 0);
    D.due("2 acts", x.about(5), 1);
    D.due("2 cards", x.about(2), 81 - 7);
    D.due("2 undo", x.undo(), 0);
    D.due("2 undone", x.about(1), 19);
  }
}
