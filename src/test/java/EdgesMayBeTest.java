/** Boundary cases of what may be: promises 13 to 19, a test for each sentence. */
public final class EdgesMayBeTest {
  private static final Due D = new Due();
  private static final int[] NO_PIECE = {Integer.MIN_VALUE, -16, -1, 16, 17, 32, 48, Integer.MAX_VALUE};
  private static final int[] NO_FOURTH = {Integer.MIN_VALUE, -4, -1, 4, 5, 32, Integer.MAX_VALUE};
  private static final String[] LIMITS = {"1", "10000", "100000000", "1000000000000", "10000000000000000"};

  public static void main(String[] args) {
    openUnknown();
    openNoneAndAll();
    openByCards();
    openByWhatIsThere();
    spreadUnknown();
    spreadNotThere();
    spreadItself();
    standsUnknown();
    standsNoTent();
    standsFlats();
    standsLeastAndGreatest();
    wantsUnknown();
    wantsBad();
    wantsRefusals();
    wantsNoneAndAll();
    fitUnknown();
    fitThere();
    fitNone();
    fitLeast();
    fitNothingFalls();
    judgeHowMany();
    judgeRow();
    judgeNone();
    judgeWhichFirst();
    judgePut();
    judgeTaken();
    judgeDraught();
    judgeThere();
    judgeSoMany();
    judgeNoDoing();
    shareUnknown();
    shareNone();
    shareFraction();
    D.end();
  }

  private static void openUnknown() {
    D.sentence("13: OPEN, as bits. UNKNOWN");
    CardHouse x = Due.built("C9999");
    for (int k : NO_FOURTH) D.due("kind " + k, x.open(k), -1);
    for (int k = 0; k < 4; k++) D.due("kind " + k, x.open(k), 15);
  }

  private static void openNoneAndAll() {
    D.sentence("OPEN for a KIND: PIECES (bits) that can be PUT now (none, the lowest, the last)");
    D.due("a new object", new CardHouse().open(0), 0);
    D.due("nothing there", Due.built("C9000").open(0), 15);
    D.due("all there", Due.built(Ground.WHOLE).open(0), 0);
    D.due("all but the last", Due.built(Due.rows("C9000", "abcdefghijklmno", 0)).open(0), 32768);
  }

  private static void openByCards() {
    D.sentence("OPEN for a KIND: of it (CARDS enough)");
    // Of kind 0 one card is left, of 1 two, of 2 none, of 3 three.
    CardHouse x = Due.built("C1221Pa0Pb1Pc1Pd2Pe2Ph2Pf2");
    int[] left = {1, 2, 0, 3};
    for (int k = 0; k < 4; k++) D.due("deck " + k, x.deck(k), left[k]);
    D.due("one card: a flat", x.open(0), 64);
    D.due("two cards: a flat, a tent", x.open(1), 64 | 256);
    D.due("none", x.open(2), 0);
    D.due("three cards", x.open(3), 64 | 256);
  }

  private static void openByWhatIsThere() {
    D.sentence("OPEN: can be PUT: all that it is on there");
    for (int p = 4; p < 16; p++) {
      for (int q : Ground.ON[p]) {
        CardHouse x = Due.built(Ground.without(q));
        D.due(p + " without " + q, x.open(0) >> p & 1, 0);
        D.due(q + " itself", x.open(0) >> q & 1, 1);
      }
      CardHouse x = Due.built(Ground.upTo(p));
      D.due(p + " with all", x.open(3) >> p & 1, 1);
      x.put(p, 1);
      D.due(p + " there", x.open(3) >> p & 1, 0);
    }
    CardHouse y = Due.built("C9999Pa0Pb0Pe1");
    D.due("what falls at once can be put", y.open(3), 4 | 8 | 128);
  }

  private static void spreadUnknown() {
    D.sentence("14: UNKNOWN");
    CardHouse x = Due.built(Ground.WHOLE);
    for (int p : NO_PIECE) D.due("piece " + p, x.spread(p), -1);
  }

  private static void spreadNotThere() {
    D.sentence("14: LATE: it is not there");
    CardHouse x = Due.built("C9999Pa0");
    for (int p = 1; p < 16; p++) D.due("piece " + p, x.spread(p), -3);
    x.take(0);
    D.due("taken", x.spread(0), -3);
  }

  private static void spreadItself() {
    D.sentence("SPREAD of a PIECE that is there: PIECES (bits) that are gone, if it falls (itself, too)");
    for (int p = 0; p < 16; p++) {
      CardHouse x = Due.built(Ground.upTo(p));
      x.put(p, 0);
      D.due("alone " + p, x.spread(p), 1 << p);
    }
    int[] due = {0xD491, 0xFDB2, 0xFF64, 0xEA48, 0xD490, 0xFD20, 0xEA40, 0xD480, 0xFD00, 0xEA00,
        0xD400, 0xE800, 0xD000, 0xE000, 0xC000, 0x8000};
    CardHouse whole = Due.built(Ground.WHOLE);
    for (int p = 0; p < 16; p++) D.due("of a whole one " + p, whole.spread(p), due[p]);
  }

  private static void standsUnknown() {
    D.sentence("15: UNKNOWN");
    CardHouse x = Due.built(Ground.WHOLE);
    for (int level : NO_FOURTH) D.due("level " + level, x.stands(level), -1);
  }

  private static void standsNoTent() {
    D.sentence("15: no TENT: 9");
    CardHouse x = new CardHouse();
    for (int level = 0; level < 4; level++) D.due("none, level " + level, x.stands(level), 9);
    for (int p = 0; p < 16; p++) {
      CardHouse y = Due.built(Ground.upTo(p));
      y.put(p, 2);
      for (int level = Ground.LEVEL[p] + 1; level < 4; level++) {
        D.due("above " + p, y.stands(level), 9);
      }
      if (Ground.TENT[p]) D.due("level of waxed " + p, y.stands(Ground.LEVEL[p]), 1);
    }
  }

  private static void standsFlats() {
    D.sentence("STANDS: all its TENTS (not its FLATS)");
    D.due("heavy tents under a waxed flat", Due.built("C9999Pa3Pb3Pe2").stands(0), 4);
    D.due("heavy tents under waxed flats", Due.built("C9999Pa3Pb3Pc3Pe2Pf2Ph3Pi3Pk2").stands(1), 4);
  }

  private static void standsLeastAndGreatest() {
    D.sentence("STANDS of a LEVEL: the greatest FORCE (0 .. 9) so that all its TENTS HOLD it, and all less");
    int[] alone = {2, 3, 1, 4};
    for (int k = 0; k < 4; k++) D.due("alone " + k, Due.built("C9999Pd" + k).stands(0), alone[k]);
    for (int k = 0; k < 4; k++) {
      D.due("the least of two " + k, Due.built("C9999Pa3Pd" + k).stands(0), alone[k]);
      D.due("the least of two, the other way " + k, Due.built("C9999Pa" + k + "Pd3").stands(0), alone[k]);
    }
    D.due("56 is 7", Due.built("C9999Pa3Pb3Pe3Ph3").stands(0), 7);
    // The sides have 32 and 32 on them: 64 is just 8; 32 and 31 are one less.
    CardHouse x = Due.built(Due.rows("C9009", "abcdefghijkl", 3) + "Pm0Pn0");
    D.due("32 on the side", x.piece(0, 2), 32);
    D.due("64 is 8", x.stands(0), 8);
    CardHouse y = Due.built(Due.rows("C9009", "abcdefghij", 3) + Due.rows("", "klmno", 0));
    D.due("31 on the left", y.piece(0, 2), 31);
    D.due("31 on the right", y.piece(3, 2), 31);
    D.due("63 is 7", y.stands(0), 7);
  }

  private static void wantsUnknown() {
    D.sentence("16: UNKNOWN");
    CardHouse x = Due.built(Ground.WHOLE);
    for (int p : NO_PIECE) D.due("piece " + p, x.wants(p, 0), -1);
    for (int p : NO_PIECE) D.due("piece " + p, x.wants(p, 1), -1);
  }

  private static void wantsBad() {
    D.sentence("16: what = 0, 1; BAD");
    CardHouse x = Due.built("C9999Pa0");
    int[] bad = {Integer.MIN_VALUE, -1, 2, 3, Integer.MAX_VALUE};
    for (int what : bad) {
      D.due("what " + what, x.wants(1, what), -2);
      D.due("there, what " + what, x.wants(0, what), -2);
    }
    D.due("0", x.wants(1, 0), 1);
    D.due("1", x.wants(1, 1), 2);
  }

  private static void wantsRefusals() {
    D.sentence("16: UNKNOWN; BAD: of several what is told first");
    CardHouse x = new CardHouse();
    D.due("above", x.wants(16, 2), -1);
    D.due("below", x.wants(-1, -1), -1);
  }

  private static void wantsNoneAndAll() {
    D.sentence("WANTS of a PIECE: how many PIECES must be PUT, itself as well (0: it is there); of how many CARDS");
    int[] pieces = {1, 1, 1, 1, 3, 3, 3, 4, 4, 4, 8, 8, 9, 9, 15, 16};
    int[] cards = {2, 2, 2, 2, 5, 5, 5, 7, 7, 7, 13, 13, 15, 15, 24, 26};
    CardHouse x = new CardHouse();
    for (int p = 0; p < 16; p++) {
      D.due("of none: pieces for " + p, x.wants(p, 0), pieces[p]);
      D.due("of none: cards for " + p, x.wants(p, 1), cards[p]);
    }
    CardHouse y = Due.built(Ground.WHOLE);
    for (int p = 0; p < 16; p++) {
      D.due("there: pieces for " + p, y.wants(p, 0), 0);
      D.due("there: cards for " + p, y.wants(p, 1), 0);
    }
    for (int p = 0; p < 16; p++) {
      CardHouse z = Due.built(Ground.upTo(p));
      D.due("only itself " + p, z.wants(p, 0), 1);
      D.due("only its cards " + p, z.wants(p, 1), Ground.cards(p));
    }
  }

  private static void fitUnknown() {
    D.sentence("17: UNKNOWN");
    CardHouse x = Due.built("C9999");
    for (int p : NO_PIECE) D.due("piece " + p, x.fit(p), -1);
  }

  private static void fitThere() {
    D.sentence("17: FULL: it is there");
    CardHouse x = Due.built(Ground.WHOLE);
    for (int p = 0; p < 16; p++) D.due("piece " + p, x.fit(p), -4);
    CardHouse y = Due.built("C1000Pa0");
    D.due("there, and cards for none", y.fit(0), -4);
  }

  private static void fitNone() {
    D.sentence("17: FIT; NONE");
    CardHouse x = new CardHouse();
    for (int p = 0; p < 16; p++) D.due("no cards " + p, x.fit(p), -9);
    CardHouse y = Due.built("C1111Pa0");
    D.due("one tent under the flat", y.fit(4), -9);
    for (int p = 5; p < 16; p++) D.due("nothing under " + p, y.fit(p), -9);
    CardHouse z = Due.built("C1110Pa0Pb1Pc2");
    D.due("one card of each: no tent", z.fit(3), -9);
    D.due("one card of each: a flat", z.fit(4), 0);
    // Heavy cards alone: each tent on the worn flat falls.
    D.due("all that can be put falls", Due.built("C1109Pa0Pb3Pc1Pe1").fit(7), -9);
  }

  private static void fitLeast() {
    D.sentence("of several the one that weighs least, of like ones the least");
    String[] heads = {"C1111", "C0111", "C0011", "C0001", "C1001", "C0101", "C1010"};
    int[] due = {0, 1, 2, 3, 0, 1, 0};
    for (int i = 0; i < 7; i++) D.due(heads[i], Due.built(heads[i]).fit(3), due[i]);
  }

  private static void fitNothingFalls() {
    D.sentence("FIT: the KIND, of which it can be PUT now so that nothing falls");
    // On a worn flat a heavy tent falls; on a plain one it stands.
    D.due("heavy alone on worn", Due.built("C1109Pa0Pb3Pc1Pe1").fit(7), -9);
    D.due("heavy alone on plain", Due.built("C1109Pa0Pb3Pc1Pe0").fit(7), 3);
    D.due("of heavy alone on heavy", Due.built("C0009Pa3Pb3Pe3").fit(7), 3);
    // 45 on waxed tent 1: all that is put as the last tent brings it down.
    CardHouse x = Due.built("C9999Pa0Pb2" + Due.rows("", "cdefghijklmno", 0));
    D.due("something far below falls", x.fit(15), -9);
    D.due("but it can be put", x.open(0), 32768);
    x.take(14);
    D.due("the flat stands by a light one", x.fit(14), 0);
  }

  private static void judgeHowMany() {
    D.sentence("n doings (1 .. 4); 18: BAD: n");
    CardHouse x = Due.built("C9999");
    int[] bad = {Integer.MIN_VALUE, -4, -1, 0, 5, 6, Integer.MAX_VALUE};
    for (int n : bad) {
      D.due("n " + n, x.judge(n, 5000), -2);
      D.due("n " + n + ", row 0", x.judge(n, 0), -2);
    }
    D.due("1", x.judge(1, 5000L), -9);
    D.due("2", x.judge(2, 50005000L), -9);
    D.due("3", x.judge(3, 500050005000L), -9);
    D.due("4", x.judge(4, 5000500050005000L), -9);
  }

  private static void judgeRow() {
    D.sentence("18: BAD: row (0 or more, 4 n figures at most)");
    CardHouse x = Due.built("C9999");
    for (int n = 1; n <= 4; n++) {
      long limit = Long.parseLong(LIMITS[n]);
      D.due(n + " below", x.judge(n, -1), -2);
      D.due(n + " far below", x.judge(n, Long.MIN_VALUE), -2);
      D.due(n + " least", x.judge(n, 0), 0);
      D.due(n + " most", x.judge(n, limit - 1), 0);
      D.due(n + " above", x.judge(n, limit), -2);
      D.due(n + " far above", x.judge(n, Long.MAX_VALUE), -2);
      D.due(n + " by 32 bits", x.judge(n, 1L << 62 | 5000), -2);
    }
    // Fewer figures than 4 n: those ahead are 0.
    D.due("figures ahead are 0", x.judge(2, 5000), 0);
    D.due("figures ahead are 0, all but one told", x.judge(4, 500050005000L), 0);
  }

  private static void judgeNone() {
    D.sentence("the place of the first that can not be (or is not so); NONE: none");
    CardHouse x = Due.built("C9999Pa0");
    D.due("all four can be", x.judge(4, 1010104040405030L), -9);
    D.due("nothing is changed", x.about(1), 1);
  }

  private static void judgeWhichFirst() {
    D.sentence("the place of the first that can not be");
    CardHouse x = Due.built("C9999Pa0");
    String[] doings = {"5000", "5000", "5000", "5000"};
    for (int place = 0; place < 4; place++) {
      doings[place] = "5990";
      D.due("only place " + place, x.judge(4, Long.parseLong(String.join("", doings))), place);
      doings[place] = "5000";
    }
    D.due("of several the first", x.judge(4, 5000599059905990L), 1);
    for (int n = 1; n <= 4; n++) {
      long row = Long.parseLong("5000500050005000".substring(0, 4 * n - 4) + "5990");
      D.due("the last of " + n, x.judge(n, row), n - 1);
    }
  }

  private static void judged(CardHouse x, long row, int due) {
    D.due("judge " + row, x.judge(1, row), due);
  }

  private static void judgePut() {
    D.sentence("1, a PIECE by two figures, a KIND: PUT");
    CardHouse x = Due.built("C9990Pa0");
    judged(x, 1010, -9);
    judged(x, 1012, -9);
    judged(x, 1013, 0);
    judged(x, 1014, 0);
    judged(x, 1019, 0);
    judged(x, 1000, 0);
    judged(x, 1040, 0);
    judged(x, 1160, 0);
    judged(x, 1990, 0);
    CardHouse y = Due.built(Due.rows("C9009", "abcdefghijklmno", 0));
    judged(y, 1150, -9);
    judged(y, 1153, -9);
    judged(y, 1154, 0);
    judged(y, 1160, 0);
  }

  private static void judgeTaken() {
    D.sentence("2, a PIECE by two figures, 0: TAKEN");
    CardHouse x = Due.built(Ground.WHOLE);
    judged(x, 2150, -9);
    judged(x, 2151, 0);
    judged(x, 2160, 0);
    judged(x, 2140, 0);
    judged(x, 2000, 0);
    judged(x, 2990, 0);
    D.due("one by one", x.judge(4, 2150214021302120L), -9);
    D.due("twice", x.judge(2, 21502150L), 1);
    CardHouse y = Due.built("C9999Pa0");
    judged(y, 2000, -9);
    judged(y, 2009, 0);
    judged(y, 2010, 0);
  }

  private static void judgeDraught() {
    D.sentence("3, 0, a LEVEL, f: DRAUGHT");
    CardHouse x = Due.built("C9999Pa0");
    judged(x, 3000, 0);
    judged(x, 3001, -9);
    judged(x, 3009, -9);
    judged(x, 3031, -9);
    judged(x, 3039, -9);
    judged(x, 3041, 0);
    judged(x, 3091, 0);
    judged(x, 3101, 0);
    judged(x, 3901, 0);
    D.due("it holds 2", x.judge(2, 30024000L), -9);
    D.due("not 3", x.judge(2, 30034000L), 1);
  }

  private static void judgeThere() {
    D.sentence("4, a PIECE by two figures, 0: it is there");
    CardHouse x = Due.built(Ground.WHOLE);
    judged(x, 4000, -9);
    judged(x, 4150, -9);
    judged(x, 4160, 0);
    judged(x, 4320, 0);
    judged(x, 4990, 0);
    judged(x, 4001, 0);
    judged(x, 4009, 0);
    judged(new CardHouse(), 4000, 0);
  }

  private static void judgeSoMany() {
    D.sentence("5, two figures, 0: so many PIECES or more are there");
    CardHouse x = Due.built(Ground.WHOLE);
    judged(x, 5000, -9);
    judged(x, 5160, -9);
    judged(x, 5170, 0);
    judged(x, 5990, 0);
    judged(x, 5001, 0);
    CardHouse y = Due.built("C9999Pa0Pb0");
    judged(y, 5010, -9);
    judged(y, 5020, -9);
    judged(y, 5030, 0);
    judged(new CardHouse(), 5000, -9);
    judged(new CardHouse(), 5010, 0);
  }

  private static void judgeNoDoing() {
    D.sentence("told as four figures each (1 .. 5)");
    CardHouse x = Due.built(Ground.WHOLE);
    for (int first : new int[] {0, 6, 7, 8, 9}) {
      for (int rest : new int[] {0, 1, 150, 999}) judged(x, 1000L * first + rest, 0);
    }
  }

  private static void shareUnknown() {
    D.sentence("19: UNKNOWN: tent (0 .. 3)");
    CardHouse x = Due.built(Ground.WHOLE);
    for (int t : NO_FOURTH) {
      D.due("tent " + t, x.share(t, true), -1);
      D.due("tent " + t + ", below", x.share(t, false), -1);
    }
    for (int t : new int[] {7, 12, 15}) D.due("a higher tent " + t, x.share(t, true), -1);
  }

  private static void share(CardHouse x, int tent, int above, int below) {
    D.due("share of " + tent, x.share(tent, true), above);
    D.due("share of " + tent + ", below", x.share(tent, false), below);
  }

  private static void shareNone() {
    D.sentence("SHARE of one of TENTS 0 .. 3 (that is not there, that stands alone)");
    for (int t = 0; t < 4; t++) {
      share(new CardHouse(), t, 0, 1);
      CardHouse x = Due.built("C9999P" + Ground.letter(t) + "0");
      for (int u = 0; u < 4; u++) share(x, u, u == t ? 1 : 0, 1);
    }
  }

  private static void shareFraction() {
    D.sentence("SHARE: a FRACTION, in least terms");
    // A flat is shared by halves, what is on two flats by thirds, on three by quarters.
    CardHouse x = Due.built("C9999Pa0Pb0Pe0");
    share(x, 0, 3, 2);
    share(x, 1, 3, 2);
    share(x, 2, 0, 1);
    x.put(7, 0);
    share(x, 0, 2, 1);
    CardHouse y = Due.built("C9999Pa0Pb0Pc0Pe0Pf0Ph0Pi0Pk0");
    share(y, 0, 7, 3);
    share(y, 1, 10, 3);
    CardHouse z = Due.built(Due.rows("C9000", "abcdefghijklmno", 0));
    share(z, 0, 35, 12);
    share(z, 1, 55, 12);
    share(z, 2, 55, 12);
    share(z, 3, 35, 12);
    share(Due.built(Ground.WHOLE), 0, 19, 6);
    share(Due.built(Ground.WHOLE), 1, 29, 6);
  }
}
