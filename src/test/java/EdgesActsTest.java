/** Boundary cases of PUT, TAKEN, DRAUGHT and ACTS: promises 9 to 12, a test for each sentence. */
public final class EdgesActsTest {
  private static final Due D = new Due();

  public static void main(String[] args) {
    putUnknown();
    putThere();
    putOnWhatIsNotThere();
    putWithoutCards();
    putRefusals();
    putFalls();
    takeUnknown();
    takeNotThere();
    takeUnderSomething();
    takeLast();
    draughtUnknown();
    draughtForce();
    draughtRefusals();
    draughtOfLevel();
    draughtHolds();
    draughtStrongest();
    draughtAtOnce();
    draughtOfNothing();
    undoNone();
    undoFourteen();
    undoFifteen();
    undoMany();
    undoForgottenFell();
    undoRefused();
    undoAllOfIt();
    D.end();
  }

  private static final int[] NO_PIECE = {Integer.MIN_VALUE, -16, -1, 16, 17, 32, 48, Integer.MAX_VALUE};
  private static final int[] NO_KIND = {Integer.MIN_VALUE, -4, -1, 4, 5, 8, 32, Integer.MAX_VALUE};

  private static void putUnknown() {
    D.sentence("9: UNKNOWN: piece, kind");
    CardHouse x = Due.built("C9999");
    for (int p : NO_PIECE) D.due("piece " + p, x.put(p, 0), -1);
    for (int k : NO_KIND) D.due("kind " + k, x.put(0, k), -1);
    D.due("both", x.put(16, 4), -1);
    D.due("no act", x.about(5), 0);
    for (int k = 0; k < 4; k++) D.due("kind " + k, x.put(k, k), 0);
    CardHouse y = Due.built(Due.rows("C9009", "abcdefghijklmno", 0));
    D.due("the last piece of the last kind", y.put(15, 3), 0);
  }

  private static void putThere() {
    D.sentence("9: FULL: it is there");
    CardHouse x = Due.built(Ground.WHOLE);
    for (int p = 0; p < 16; p++) {
      for (int k = 0; k < 4; k++) D.due(p + " of " + k, x.put(p, k), -4);
    }
    D.due("no act", x.about(5), 0);
    x.take(15);
    D.due("taken, and put", x.put(15, 0), 0);
    D.due("there again", x.put(15, 0), -4);
  }

  private static void putOnWhatIsNotThere() {
    D.sentence("PUT: a PIECE that is not there, with all that it is on there; 9: LATE: it can not be");
    for (int p = 4; p < 16; p++) {
      for (int q : Ground.ON[p]) {
        CardHouse x = Due.built(Ground.without(q));
        D.due(p + " without " + q, x.put(p, 0), -3);
        x.put(q, 0);
        D.due(p + " with " + q, x.put(p, 0), 0);
      }
    }
  }

  private static void putWithoutCards() {
    D.sentence("of a KIND of which there are CARDS enough in THE DECK");
    for (int k = 0; k < 4; k++) {
      StringBuilder head = new StringBuilder("C0000");
      head.setCharAt(1 + k, '2');
      CardHouse x = Due.built(head.toString());
      D.due("tent of six " + k, x.put(0, k), 0);
      D.due("tent of four " + k, x.put(1, k), 0);
      D.due("flat of two " + k, x.put(4, k), 0);
      D.due("no tent of one " + k, x.put(2, k), -3);
      D.due("no tent of one on the flat " + k, x.put(7, k), -3);
      x.take(4);
      D.due("tent of two " + k, x.put(2, k), 0);
      D.due("no flat of none " + k, x.put(4, k), -3);
      D.due("of another kind " + k, x.put(4, (k + 1) % 4), -3);
    }
    CardHouse y = Due.built("C1100Pa0Pb1");
    D.due("the last card", y.put(4, 0), 0);
    D.due("none left", y.deck(0), 0);
  }

  private static void putRefusals() {
    D.sentence("9: UNKNOWN; FULL; LATE: of several what is told first");
    CardHouse x = Due.built("C1000Pa0");
    D.due("there, and no such kind", x.put(0, 4), -1);
    D.due("there, and no such kind, below", x.put(0, -1), -1);
    D.due("nothing under it, and no such kind", x.put(15, 4), -1);
    D.due("there, and no cards", x.put(0, 3), -4);
    D.due("there, and one card", x.put(0, 0), -4);
    D.due("nothing under it, and no cards", x.put(15, 3), -3);
  }

  private static void putFalls() {
    D.sentence("9: PUT: how many PIECES fall by it");
    // A worn flat bears a tent of 16, a heavy one of 32 it does not.
    for (int k = 0; k < 4; k++) {
      CardHouse x = Due.built("C9999Pa0Pb0Pe1");
      D.due("on a worn flat " + k, x.put(7, k), k == 3 ? 2 : 0);
      D.due("an act " + k, x.about(5), 1);
    }
    // 45 on waxed tent 1 by all but the last tent, which makes it 51.
    CardHouse y = Due.built("C9999Pa0Pb2" + Due.rows("", "cdefghijklmno", 0));
    D.due("all stand", y.about(0), 15);
    D.due("by the last all that leans on tent 1", y.put(15, 1), 11);
    D.due("left", y.about(1), 1 | 4 | 8 | 64 | 512);
  }

  private static void takeUnknown() {
    D.sentence("10: UNKNOWN");
    CardHouse x = Due.built(Ground.WHOLE);
    for (int p : NO_PIECE) D.due("piece " + p, x.take(p), -1);
    D.due("the last", x.take(15), 2);
    CardHouse y = Due.built("C9999Pa0");
    D.due("the first", y.take(0), 2);
  }

  private static void takeNotThere() {
    D.sentence("10: LATE: it is not there");
    CardHouse x = Due.built("C9999Pa0");
    for (int p = 1; p < 16; p++) D.due("piece " + p, x.take(p), -3);
    x.take(0);
    D.due("taken already", x.take(0), -3);
    D.due("in a new object", new CardHouse().take(0), -3);
    D.due("acts", x.about(5), 1);
  }

  private static void takeUnderSomething() {
    D.sentence("TAKEN: a PIECE on which nothing is; 10: LATE: something is on it");
    for (int p = 4; p < 16; p++) {
      for (int q : Ground.ON[p]) {
        CardHouse x = Due.built(Ground.upTo(p));
        x.put(p, 0);
        D.due(q + " under " + p, x.take(q), -3);
        x.take(p);
        D.due(q + " without " + p, x.piece(q, 4), 1);
        D.due(q + " is taken", x.take(q), Ground.cards(q));
      }
    }
  }

  private static void takeLast() {
    D.sentence("10: how many CARDS come back");
    CardHouse x = Due.built(Ground.WHOLE);
    int cards = 28;
    for (int p = 15; p >= 0; p--) {
      D.due("take " + p, x.take(p), Ground.cards(p));
      cards += Ground.cards(p);
      D.due("deck without " + p, x.about(2), cards);
    }
    D.due("none is left", x.about(0), 0);
    D.due("nothing fell", x.about(3), 0);
  }

  private static void draughtUnknown() {
    D.sentence("11: UNKNOWN: level");
    CardHouse x = Due.built(Ground.WHOLE);
    int[] unknown = {Integer.MIN_VALUE, -1, 4, 5, 32, Integer.MAX_VALUE};
    for (int level : unknown) D.due("level " + level, x.draught(level, 1), -1);
    D.due("no act", x.about(5), 0);
    for (int level = 0; level < 4; level++) D.due("level " + level, x.draught(level, 1), 0);
    D.due("four acts", x.about(5), 4);
  }

  private static void draughtForce() {
    D.sentence("DRAUGHT along a LEVEL, of FORCE f (1 .. 9); 11: BAD: f");
    CardHouse x = Due.built("C9999Pa0");
    int[] bad = {Integer.MIN_VALUE, -9, -1, 0, 10, 11, Integer.MAX_VALUE};
    for (int f : bad) D.due("force " + f, x.draught(0, f), -2);
    D.due("it stands", x.about(1), 1);
    D.due("force 1", x.draught(0, 1), 0);
    D.due("force 9", x.draught(0, 9), 1);
    D.due("acts", x.about(5), 2);
  }

  private static void draughtRefusals() {
    D.sentence("11: UNKNOWN; BAD: of several what is told first");
    CardHouse x = new CardHouse();
    D.due("above", x.draught(4, 10), -1);
    D.due("below", x.draught(-1, 0), -1);
  }

  private static void draughtOfLevel() {
    D.sentence("all its TENTS that do not HOLD it fall");
    // Plain pieces hold 2; a waxed one does not, but only a tent of that level is asked.
    for (int p = 0; p < 16; p++) {
      for (int level = 0; level < 4; level++) {
        CardHouse x = Due.built(Ground.upTo(p));
        x.put(p, 2);
        int due = Ground.TENT[p] && Ground.LEVEL[p] == level ? 1 : 0;
        D.due("waxed " + p + ", level " + level, x.draught(level, 2), due);
      }
    }
  }

  /** The tents 0 and 3 of this text hold a force, and the next one they do not. */
  private static void holds(String text, int load, int force, int fall) {
    CardHouse x = Due.built(text);
    D.due("load of " + text, x.piece(0, 2), load);
    D.due("it holds " + force, x.draught(0, force), 0);
    D.due("not one more than " + force, x.draught(0, force + 1), fall);
  }

  private static void draughtHolds() {
    D.sentence("a TENT HOLDS it, if what it weighs, its LOAD and its GRIP together are 8 f or more");
    int[] alone = {2, 3, 1, 4};
    int[] by24 = {5, 6, 4, 7};
    for (int k = 0; k < 4; k++) {
      holds("C9999Pa" + k, 0, alone[k], 1);
      // 24 on tent 0, just enough for three forces more; heavy tent 1 has 56.
      holds("C9999Pa" + k + "Pb3Pe3Ph3", 24, by24[k], k == 3 ? 4 : 3);
      // 23 on tents 0 and 3, one less than enough.
      String all = "Pb0Pc0Pd" + k + Due.rows("", "efghij", 0) + "Pk3Pl3Pm0Pn0Po0Pp1";
      holds("C9999Pa" + k + all, 23, by24[k] - 1, 12);
    }
  }

  private static void draughtStrongest() {
    D.sentence("FORCE 9: 72 or more");
    // Heavy tent 1 has 32 and 40 on it; the lowest ones beside it have less.
    CardHouse x = Due.built("C9999Pa0Pb3Pc0Pe0Pf0Ph3Pi3");
    D.due("load", x.piece(1, 2), 40);
    D.due("the sides fall", x.draught(0, 9), 6);
    D.due("it held", x.about(1), 2);
    // Light flats and tents: 32 on it, and 64 in all.
    CardHouse y = Due.built("C9999Pa0Pb3Pc0Pe0Pf0Ph3Pi0");
    D.due("load", y.piece(1, 2), 32);
    D.due("8 is held", y.draught(0, 8), 6);
    D.due("it held 8", y.about(1), 2);
    y.undo();
    D.due("9 is not", y.draught(0, 9), 7);
  }

  private static void draughtAtOnce() {
    D.sentence("all its TENTS that do not HOLD it fall, at once");
    // Tent 1 holds by what lies on it from both sides, though by the draught all that goes.
    CardHouse x = Due.built("C9999Pa2Pb0Pc2Pe0Pf0Ph0Pi0");
    D.due("load of 0", x.piece(0, 2), 12);
    D.due("load of 1", x.piece(1, 2), 24);
    D.due("force 5", x.draught(0, 5), 6);
    D.due("tent 1 held", x.about(1), 2);
    D.due("now it does not", x.draught(0, 5), 1);
  }

  private static void draughtOfNothing() {
    D.sentence("11: DRAUGHT: how many PIECES fall (none there)");
    CardHouse x = new CardHouse();
    for (int level = 0; level < 4; level++) D.due("level " + level, x.draught(level, 9), 0);
    D.due("each is an act", x.about(5), 4);
    CardHouse y = Due.built("C9999Pa0Pb0Pe0");
    D.due("no tents there", y.draught(1, 9), 0);
    D.due("flats do not fall by it", y.about(1), 19);
  }

  private static void undoNone() {
    D.sentence("12: LATE: there is none");
    D.due("new", new CardHouse().undo(), -3);
    CardHouse x = Due.built("C9999Pa0");
    D.due("a house", x.undo(), -3);
    x.take(0);
    D.due("one", x.undo(), 0);
    D.due("none", x.undo(), -3);
    D.due("it stands", x.about(1), 1);
  }

  /** So many acts: tent 0 put, of each kind in its turn, and taken. */
  private static CardHouse acted(int acts) {
    CardHouse x = Due.built("C9999Pd0");
    for (int i = 0; i < acts; i++) {
      if (i % 2 == 0) x.put(0, i / 2 % 4);
      else x.take(0);
    }
    return x;
  }

  private static void undoFourteen() {
    D.sentence("ACTS are a row (14 at most)");
    CardHouse x = acted(14);
    D.due("acts", x.about(5), 14);
    for (int left = 13; left >= 0; left--) D.due("undo", x.undo(), left);
    D.due("as at first", x.about(1), 8);
    D.due("none", x.undo(), -3);
  }

  private static void undoFifteen() {
    D.sentence("when it is full, the first one is forgotten");
    CardHouse x = acted(15);
    D.due("acts", x.about(5), 14);
    D.due("what stands", x.about(1), 9);
    for (int left = 13; left >= 0; left--) D.due("undo", x.undo(), left);
    D.due("as after the first one", x.about(1), 9);
    D.due("its kind", x.piece(0, 0), 0);
    D.due("none", x.undo(), -3);
    D.due("one more can be then", x.take(0), 2);
    D.due("acts then", x.about(5), 1);
  }

  private static void undoMany() {
    D.sentence("the last one can be undone");
    CardHouse x = acted(40);
    for (int i = 39; i >= 26; i--) {
      D.due("undo of " + i, x.undo(), i - 26);
      // Ahead of an odd one it was there, of the kind of its turn.
      D.due("kind ahead of " + i, x.piece(0, 0), i % 2 == 0 ? -9 : i / 2 % 4);
    }
    D.due("none", x.undo(), -3);
    CardHouse y = acted(14);
    y.undo();
    y.put(1, 1);
    D.due("full again", y.about(5), 14);
    y.undo();
    D.due("undone", y.about(1), 9);
  }

  /** Tent 0 put and blown down, over and over: each step back has what had fallen by then. */
  private static void undoForgottenFell() {
    D.sentence("when it is full, the first one is forgotten (how many FELL)");
    CardHouse x = Due.built("C9999");
    for (int i = 0; i < 20; i++) {
      if (i % 2 == 0) x.put(0, 0);
      else x.draught(0, 3);
    }
    for (int i = 19; i >= 6; i--) {
      D.due("undo of " + i, x.undo(), i - 6);
      D.due("fell ahead of " + i, x.about(3), i / 2);
    }
    D.due("none", x.undo(), -3);
  }

  private static void undoRefused() {
    D.sentence("What is refused changes nothing (ACTS)");
    CardHouse x = acted(1);
    x.put(0, 0);
    x.put(16, 0);
    x.put(4, 0);
    x.take(1);
    x.take(16);
    x.draught(4, 1);
    x.draught(0, 10);
    D.due("acts", x.about(5), 1);
    D.due("undo", x.undo(), 0);
    D.due("what stands", x.about(1), 8);
  }

  private static void undoAllOfIt() {
    D.sentence("12: The last ACT is undone");
    CardHouse x = Due.built("C9999Pa0Pb2Pe1");
    x.put(7, 3);
    D.due("fell", x.about(3), 2);
    x.undo();
    D.due("a put: pieces", x.about(1), 19);
    D.due("a put: kind", x.piece(4, 0), 1);
    D.due("a put: cards", x.deck(1), 26);
    D.due("a put: fell", x.about(3), 0);
    x.draught(0, 9);
    D.due("all fell", x.about(3), 3);
    x.undo();
    D.due("a draught: pieces", x.about(1), 19);
    D.due("a draught: kind", x.piece(1, 0), 2);
    D.due("a draught: fell", x.about(3), 0);
    x.take(4);
    x.undo();
    D.due("a taking: kind", x.piece(4, 0), 1);
    D.due("a taking: load", x.piece(0, 2), 4);
  }
}
