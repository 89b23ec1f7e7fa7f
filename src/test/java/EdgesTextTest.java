/** Boundary cases of THE TEXT, FAULT and THE HOUSE: promises 1 to 5, a test for each sentence. */
public final class EdgesTextTest {
  private static final Due D = new Due();

  public static void main(String[] args) {
    atFirst();
    aByte();
    fiftySix();
    badAheadOfFull();
    wipeEmptyAndFull();
    aHouseBeginsWithC();
    fourFigures();
    thenPieces();
    aPiece();
    notToldYet();
    toldAhead();
    ofKind();
    cardsEnough();
    threeTimesN();
    aPByItself();
    aLetterByItself();
    notAtItsEnd();
    theFirstFault();
    lengthSetAside();
    houseOfFault();
    houseEmptyAndWhole();
    houseAnew();
    houseLeaves();
    houseIsSettled();
    D.end();
  }

  private static int faultOf(String text) {
    CardHouse x = new CardHouse();
    Due.tell(x, text);
    return x.fault();
  }

  /** Behind this text these bytes are no fault, and all others of the 256 are. */
  private static void onlyThese(String ahead, String taken) {
    int place = ahead.length();
    boolean end = place >= 4 && (place - 4) % 3 == 0;
    for (int letter = 0; letter < 256; letter++) {
      boolean isTaken = taken.indexOf((char) letter) >= 0;
      int due = !isTaken ? place : end ? -9 : place + 1;
      D.due("byte " + letter + " behind " + ahead, faultOf(ahead + (char) letter), due);
    }
  }

  private static void atFirst() {
    D.sentence("At first there is no CARD, no PIECE; 1: No cards.");
    CardHouse x = new CardHouse();
    int[] due = {0, 0, 0, 0, -9, 0, 0, 0};
    for (int what = 0; what < 8; what++) D.due("about " + what, x.about(what), due[what]);
    for (int kind = 0; kind < 4; kind++) {
      D.due("deck " + kind, x.deck(kind), 0);
      D.due("open " + kind, x.open(kind), 0);
      D.due("put " + kind, x.put(0, kind), -3);
    }
    for (int p = 0; p < 16; p++) D.due("piece " + p, x.piece(p, 0), -9);
  }

  private static void aByte() {
    D.sentence("2: A byte (0 .. 255) .. BAD");
    int[] bad = {Integer.MIN_VALUE, -256, -1, 256, 256 + 'C', 511, Integer.MAX_VALUE};
    for (int letter : bad) D.due("write " + letter, new CardHouse().write(letter), -2);
    for (int letter = 0; letter < 256; letter++) {
      D.due("write " + letter, new CardHouse().write(letter), 1);
    }
  }

  private static CardHouse full() {
    CardHouse x = new CardHouse();
    Due.tell(x, Ground.WHOLE + "Pa0");
    return x;
  }

  private static void fiftySix() {
    D.sentence("THE TEXT is bytes (56 at most); 2: FULL: there are 56");
    CardHouse x = new CardHouse();
    for (int i = 1; i <= 56; i++) D.due("write", x.write('C'), i);
    D.due("one more", x.write('C'), -4);
    D.due("and more", x.write(0), -4);
    D.due("length", x.about(7), 56);
    x.wipe();
    D.due("wiped, one", x.write('C'), 1);
  }

  private static void badAheadOfFull() {
    D.sentence("2: BAD; FULL: of several what is told first");
    CardHouse x = full();
    D.due("length", x.about(7), 56);
    D.due("below", x.write(-1), -2);
    D.due("above", x.write(256), -2);
    D.due("a byte", x.write(255), -4);
  }

  private static void wipeEmptyAndFull() {
    D.sentence("3: THE TEXT is empty: how long it was");
    CardHouse x = new CardHouse();
    D.due("of an empty one", x.wipe(), 0);
    x.write(0);
    D.due("of one byte", x.wipe(), 1);
    D.due("length then", x.about(7), 0);
    CardHouse y = full();
    D.due("of a full one", y.wipe(), 56);
    D.due("fault then", y.fault(), 0);
    D.due("again", y.wipe(), 0);
    CardHouse z = Due.built("C1000Pa0");
    z.wipe();
    D.due("THE HOUSE stays", z.about(1), 1);
    D.due("its cards stay", z.deck(0), 1);
  }

  private static void aHouseBeginsWithC() {
    D.sentence("A HOUSE is a TEXT: C");
    onlyThese("", "C");
  }

  private static void fourFigures() {
    D.sentence("four figures n (0 .. 9)");
    onlyThese("C", "0123456789");
    onlyThese("C0", "0123456789");
    onlyThese("C09", "0123456789");
    onlyThese("C990", "0123456789");
  }

  private static void thenPieces() {
    D.sentence("then PIECES, none or more");
    D.due("none", faultOf("C9999"), -9);
    D.due("none, and no cards", faultOf("C0000"), -9);
    D.due("one", faultOf("C9999Pd3"), -9);
    D.due("all", faultOf(Ground.WHOLE), -9);
    onlyThese("C9999", "P");
    onlyThese("C9999Pa0", "P");
  }

  private static void aPiece() {
    D.sentence("a PIECE (a .. p: 0 .. 15)");
    onlyThese("C9999P", "abcd");
    onlyThese("C9999Pa0Pb0P", "cde");
    onlyThese(Due.rows("C9900", "abcdefghijklmn", 0) + "P", "o");
    onlyThese(Due.rows("C9900", "abcdefghijklmno", 0) + "P", "p");
    for (int p = 0; p < 16; p++) {
      CardHouse x = Due.built(Ground.upTo(p) + "P" + Ground.letter(p) + "2");
      D.due("kind of " + p, x.piece(p, 0), 2);
    }
  }

  private static void notToldYet() {
    D.sentence("that is not told yet");
    for (int p = 0; p < 16; p++) {
      String text = Ground.upTo(p) + "P" + Ground.letter(p) + "0";
      boolean last = p == 15;
      D.due("told twice " + p, faultOf(text + "P" + Ground.letter(p) + "1"), text.length() + (last ? 0 : 1));
    }
  }

  private static void toldAhead() {
    D.sentence("all that it is on was told ahead");
    for (int p = 4; p < 16; p++) {
      for (int q : Ground.ON[p]) {
        String text = Ground.without(q);
        D.due(p + " without " + q, faultOf(text + "P" + Ground.letter(p) + "0"), text.length() + 1);
      }
      String text = Ground.upTo(p) + "P" + Ground.letter(p) + "0";
      D.due(p + " on all of it", faultOf(text), -9);
    }
  }

  private static void ofKind() {
    D.sentence("of KIND k (0 .. 3)");
    onlyThese("C9999Pa", "0123");
    onlyThese(Due.rows("C9999", "abcdefghijklmno", 0) + "Pp", "0123");
    for (int k = 0; k < 4; k++) D.due("kind", Due.built("C9999Pa" + k).piece(0, 0), k);
  }

  private static void cardsEnough() {
    D.sentence("of which there are CARDS enough left");
    // Three cards of one kind: enough for a tent of it.
    onlyThese("C1000Pa", "0");
    onlyThese("C0100Pa", "1");
    onlyThese("C0010Pa", "2");
    onlyThese("C0001Pa", "3");
    // One is left: a tent wants another kind, a flat does not.
    onlyThese("C1010Pa0Pb", "2");
    onlyThese("C1110Pa0Pb1Pe", "012");
    onlyThese("C1110Pa0Pb1Pc", "2");
    // The last one is used by the flat.
    onlyThese("C1210Pa0Pb1Pc2Pe0Pf", "12");
    // Just two are left, the last ones for a tent.
    onlyThese("C2000Pa0Pb0Pc", "0");
    D.due("26 of 27", faultOf(Due.rows("C9000", "abcdefghijklmnop", 0)), -9);
    D.due("the last tent of another kind", faultOf(Due.rows("C8100", "abcdefghijklmno", 0) + "Pp1"), -9);
    D.due("not of the kind that is used up", faultOf(Due.rows("C8100", "abcdefghijklmnop", 0)), 52);
  }

  private static void threeTimesN() {
    D.sentence("three times n CARDS of KIND 0, 1, 2, 3 there are in all");
    for (int n = 0; n < 10; n++) {
      CardHouse x = Due.built("C" + n + (9 - n) + n + (9 - n));
      for (int kind = 0; kind < 4; kind++) {
        D.due("deck " + kind + " of " + n, x.deck(kind), 3 * (kind % 2 == 0 ? n : 9 - n));
      }
      D.due("in all", x.about(2), 54);
    }
    D.due("none", Due.built("C0000").about(2), 0);
    D.due("most", Due.built("C9999").about(2), 108);
  }

  private static void aPByItself() {
    D.sentence("a P by itself, if there are CARDS enough for no PIECE that could be told");
    onlyThese("C0000", "");
    // One card is left, but no flat has both its tents.
    onlyThese("C1000Pa0", "");
    onlyThese("C1100Pa0Pc1", "");
    onlyThese("C1100Pa0Pb1", "P");
    // A tent could be told, but there are no two cards of one kind.
    onlyThese("C1100Pa0Pb1Pe0", "");
    onlyThese("C2000Pa0Pb0Pc0", "");
    onlyThese("C2000Pa0Pb0Pe0", "");
    onlyThese("C2000Pa0Pb0", "P");
    onlyThese(Due.rows("C8000", "abcdefghijklmno", 0), "");
    onlyThese(Due.rows("C8100", "abcdefghijklmno", 0), "P");
  }

  private static void aLetterByItself() {
    D.sentence("a, if there are for that one of no KIND");
    onlyThese("C1100Pa0Pb1P", "e");
    onlyThese("C1110Pa0Pb1P", "cde");
    onlyThese("C1110Pa0Pb1Pc2P", "ef");
    onlyThese("C1110Pa0Pb1Pc2Pe0P", "f");
    onlyThese("C2000Pa0Pb0P", "cde");
  }

  private static void notAtItsEnd() {
    D.sentence("its length, if it is only not at its end; NONE: none");
    String whole = "C9009Pa0Pb3Pe0";
    int[] due = {0, 1, 2, 3, 4, -9, 6, 7, -9, 9, 10, -9, 12, 13, -9};
    for (int length = 0; length <= whole.length(); length++) {
      D.due("of " + length, faultOf(whole.substring(0, length)), due[length]);
    }
  }

  private static void theFirstFault() {
    D.sentence("FAULT: the place of the first byte .. whatever came behind it");
    D.due("good bytes behind", faultOf("XC9999Pa0"), 0);
    D.due("two faults", faultOf("C99x9Pz0"), 3);
    D.due("a fault ahead of its end", faultOf("C9999Pa7P"), 7);
    D.due("a fault at the last byte", faultOf("C9999Pa0x"), 8);
    D.due("a fault in a full text", full().fault(), 53);
    CardHouse x = new CardHouse();
    for (int i = 0; i < 56; i++) x.write(0);
    D.due("zeros", x.fault(), 0);
  }

  private static void lengthSetAside() {
    D.sentence("its length set aside");
    D.due("all sixteen", faultOf(Ground.WHOLE), -9);
    D.due("a seventeenth", faultOf(Ground.WHOLE + "P"), 53);
    D.due("a seventeenth to the last byte", faultOf(Ground.WHOLE + "Pa0"), 53);
    D.due("fifteen and a beginning", faultOf(Ground.WHOLE.substring(0, 50) + "Pp"), 52);
  }

  private static void houseOfFault() {
    D.sentence("5: LATE: a FAULT");
    D.due("of an empty text", new CardHouse().house(), -3);
    String[] faults = {"C", "C999", "D9999", "C9999P", "C9999Pa", "C9999Pa4", "C9999Pe0", "C0000Pa0", "C99990"};
    for (String text : faults) {
      CardHouse x = new CardHouse();
      Due.tell(x, text);
      D.due("of " + text, x.house(), -3);
      D.due("no cards come by " + text, x.about(2), 0);
    }
    D.due("of a full one", full().house(), -3);
  }

  private static int housed(String text) {
    CardHouse x = new CardHouse();
    Due.tell(x, text);
    return x.house();
  }

  private static void houseEmptyAndWhole() {
    D.sentence("5: how many PIECES there are");
    D.due("no cards", housed("C0000"), 0);
    D.due("cards alone", housed("C9999"), 0);
    D.due("one", housed("C0001Pd3"), 1);
    D.due("all", housed(Ground.WHOLE), 16);
    D.due("all of one kind", housed(Due.rows("C9000", "abcdefghijklmnop", 0)), 16);
  }

  private static void houseAnew() {
    D.sentence("5: no ACTS; what was kept is gone");
    CardHouse x = Due.built("C9999Pa0");
    x.put(1, 0);
    x.keep(0);
    x.keep(1);
    D.due("anew", x.house(), 1);
    D.due("acts", x.about(5), 0);
    D.due("undo", x.undo(), -3);
    D.due("again 0", x.again(0), -3);
    D.due("again 1", x.again(1), -3);
    D.due("what stands", x.about(1), 1);
  }

  private static void houseLeaves() {
    D.sentence("5: HELD, THE SEED stay");
    CardHouse x = Due.built("C9999Pa0");
    x.hold(0, 4, 0, 1);
    x.hold(1, 3, 0, 1);
    x.seed(-5);
    x.house();
    D.due("held", x.about(6), 2);
    D.due("tents", x.tents(1), 31);
    D.due("seed", x.seed(0), -5);
    D.due("the text", x.about(7), 8);
    D.due("once more", x.house(), 1);
  }

  private static void houseIsSettled() {
    D.sentence("When THE HOUSE is made anew, it is SETTLED, nothing FELL");
    CardHouse x = Due.built("C9999Pa0Pb0");
    x.draught(0, 9);
    D.due("fell", x.about(3), 2);
    Due.tell(x, "C0909Pa1Pb1Pe1Ph3");
    D.due("house", x.house(), 2);
    D.due("which", x.about(1), 3);
    D.due("nothing fell", x.about(3), 0);
    D.due("its cards are in the deck", x.deck(3), 27);
    D.due("that of the flat as well", x.deck(1), 23);
    D.due("not an act", x.about(5), 0);
  }
}
