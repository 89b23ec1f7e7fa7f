/** Boundary cases of RESTS, SHAKEN, THE SEED, EVENINGS: promises 23 to 26, a test for each sentence. */
public final class EdgesChancesTest {
  private static final Due D = new Due();
  private static final int LEAST = Integer.MIN_VALUE, MOST = Integer.MAX_VALUE;
  private static final long TIMES = 6364136223846793005L, MORE = 1442695040888963407L;

  public static void main(String[] args) {
    restsUnknown();
    restsBothAreOne();
    restsWhat();
    restsThere();
    restsRefusals();
    restsOfNothing();
    restsOfAll();
    restsTheOneFirst();
    restsLessOne();
    restsFallen();
    shakenPieces();
    shakenTenths();
    shakenNeverAndSurely();
    shakenOnlyThere();
    shakenLeastTerms();
    seedAtFirst();
    seedWraps();
    eveningsHowMany();
    eveningsUpperBits();
    eveningsPut();
    eveningsDraught();
    eveningsTaken();
    eveningsEachTime();
    eveningsFromNow();
    eveningsChangeNothing();
    D.end();
  }

  private static void restsUnknown() {
    D.sentence("23: UNKNOWN: both");
    CardHouse x = Due.built("C9999");
    for (int p : new int[] {LEAST, -1, 16, 17, 32, MOST}) {
      D.due("one " + p, x.rests(p, 0, 0), -1);
      D.due("other " + p, x.rests(0, p, 0), -1);
      D.due("both " + p, x.rests(p, p, 0), -1);
    }
    D.due("the first and the last", x.rests(0, 15, 0), 4);
    D.due("the last and the first", x.rests(15, 0, 0), 4);
  }

  private static void restsBothAreOne() {
    D.sentence("23: BAD: both are one");
    CardHouse x = Due.built("C9999Pa0");
    for (int p = 0; p < 16; p++) D.due("both " + p, x.rests(p, p, 0), -2);
  }

  private static void restsWhat() {
    D.sentence("23: what = 0, 1; BAD: what");
    CardHouse x = Due.built("C9999");
    for (int what : new int[] {LEAST, -1, 2, 3, MOST}) D.due("what " + what, x.rests(0, 1, what), -2);
    D.due("0", x.rests(0, 1, 0), 16);
    D.due("1", x.rests(0, 1, 1), 0);
  }

  private static void restsThere() {
    D.sentence("RESTS of two PIECES that are not there; 23: LATE: one is there");
    CardHouse x = Due.built("C9999Pa0Pd0");
    D.due("the one", x.rests(0, 1, 0), -3);
    D.due("the other", x.rests(1, 0, 0), -3);
    D.due("both", x.rests(0, 3, 1), -3);
    D.due("neither", x.rests(1, 2, 0), 16);
  }

  private static void restsRefusals() {
    D.sentence("23: UNKNOWN; BAD; LATE: of several what is told first");
    CardHouse x = Due.built("C9999Pa0");
    D.due("unknown, what", x.rests(16, 1, 2), -1);
    D.due("other unknown, what", x.rests(1, 16, 2), -1);
    D.due("unknown, and one is there", x.rests(0, 16, 0), -1);
    D.due("both are one, there", x.rests(0, 0, 0), -2);
    D.due("what, there", x.rests(0, 1, 2), -2);
    D.due("what, there, below", x.rests(1, 0, -1), -2);
  }

  private static void restsOfNothing() {
    D.sentence("RESTS: PUTS it of KIND 0 .. 3, if it can be, or does not (4)");
    CardHouse x = new CardHouse();
    D.due("no cards: neither", x.rests(0, 1, 0), 1);
    D.due("no cards: 44", x.rests(0, 1, 1), 44);
    D.due("nothing under them", Due.built("C9999").rests(14, 15, 1), 44);
    D.due("only the one can be", Due.built("C0009").rests(0, 15, 1), 34);
    D.due("only the other can be", Due.built("C0009").rests(15, 0, 1), 43);
  }

  private static void restsOfAll() {
    D.sentence("RESTS: how many; the first one (10 times the one and the other)");
    CardHouse x = Due.built("C9999");
    D.due("all kinds of both", x.rests(0, 3, 0), 16);
    D.due("the first", x.rests(0, 3, 1), 0);
    CardHouse y = Due.built("C0009");
    D.due("only heavy", y.rests(0, 3, 0), 1);
    D.due("only heavy, which", y.rests(0, 3, 1), 33);
    CardHouse z = Due.built("C0303");
    D.due("two kinds", z.rests(0, 3, 0), 4);
    D.due("two kinds, the first", z.rests(0, 3, 1), 11);
  }

  private static void restsTheOneFirst() {
    D.sentence("RESTS: the one first");
    CardHouse x = Due.built("C9000Pa0");
    D.due("a tent, and the flat on it", x.rests(1, 4, 1), 0);
    D.due("the flat ahead of its tent can not be", x.rests(4, 1, 1), 40);
    // Two cards: the one has them, the other would have none.
    CardHouse y = Due.built("C1000");
    D.due("cards for one", y.rests(0, 1, 0), 1);
    D.due("cards for the one", y.rests(0, 1, 1), 4);
  }

  private static void restsLessOne() {
    D.sentence("RESTS: and 2, if its own is, less 1, if a KIND was chosen");
    // A kind that can not be put costs 1, so it is never chosen at rest.
    CardHouse x = Due.built("C9000");
    D.due("kinds without cards", x.rests(0, 1, 0), 1);
    D.due("the kind with cards", x.rests(0, 1, 1), 0);
    D.due("nothing under it", x.rests(15, 14, 0), 1);
  }

  private static void restsFallen() {
    D.sentence("RESTS: as many as PIECES that are there then");
    // On a worn flat a heavy tent brings both down; plain, worn and waxed ones stand.
    CardHouse x = Due.built("C3109Pa0Pb0");
    D.due("kinds that bear", x.rests(4, 7, 0), 8);
    // Worn flat and heavy tent alone: the flat stands if the tent is left.
    CardHouse y = Due.built("C0209Pa3Pb3Pc1");
    y.put(3, 1);
    D.due("worn cards", y.deck(1), 2);
    D.due("two worn cards, heavy ones", y.rests(4, 7, 1), 14);
  }

  private static void shakenPieces() {
    D.sentence("SHAKEN: v PIECES (0 .. 16) or more; 24: BAD: v");
    CardHouse x = Due.built(Ground.WHOLE);
    for (int v : new int[] {LEAST, -1, 17, 18, MOST}) {
      D.due("v " + v, x.shaken(v, 0, true), -2);
      D.due("v " + v + ", below", x.shaken(v, 10, false), -2);
    }
    D.due("0, surely", x.shaken(0, 10, true), 1);
    D.due("16, surely", x.shaken(16, 0, true), 1);
    D.due("16, none may fall", x.shaken(16, 1, true), 6561);
  }

  private static void shakenTenths() {
    D.sentence("SHAKEN: by x tenths (0 .. 10); 24: BAD: x");
    CardHouse x = Due.built("C9999Pa0");
    for (int t : new int[] {LEAST, -1, 11, 12, MOST}) D.due("x " + t, x.shaken(0, t, true), -2);
    for (int t = 1; t < 10; t++) {
      int common = t % 5 == 0 ? 5 : t % 2 == 0 ? 2 : 1;
      D.due("one tent by " + t, x.shaken(1, t, true), (10 - t) / common);
      D.due("one tent by " + t + ", below", x.shaken(1, t, false), 10 / common);
    }
    D.due("both wrong", x.shaken(17, 11, true), -2);
  }

  private static void fraction(CardHouse x, int v, int tenths, int above, int below) {
    D.due("shaken " + v + " by " + tenths, x.shaken(v, tenths, true), above);
    D.due("shaken " + v + " by " + tenths + ", below", x.shaken(v, tenths, false), below);
  }

  private static void shakenNeverAndSurely() {
    D.sentence("SHAKEN: x = 0 (none falls), 10 (all fall), v = 0");
    CardHouse x = Due.built(Ground.WHOLE);
    for (int v = 0; v <= 16; v++) {
      fraction(x, v, 0, 1, 1);
      fraction(x, v, 10, v == 0 ? 1 : 0, 1);
    }
    CardHouse y = Due.built("C9999Pa0Pb0");
    fraction(y, 2, 0, 1, 1);
    fraction(y, 3, 0, 0, 1);
    fraction(y, 0, 5, 1, 1);
  }

  private static void shakenOnlyThere() {
    D.sentence("SHAKEN: each of TENTS 0 .. 3 that is there");
    CardHouse x = new CardHouse();
    fraction(x, 0, 10, 1, 1);
    fraction(x, 1, 5, 0, 1);
    fraction(Due.built("C9999Pd0"), 1, 1, 9, 10);
    fraction(Due.built("C9999Pb0Pd0"), 1, 1, 99, 100);
    fraction(Due.built("C9999Pb0Pc0Pd0"), 1, 1, 999, 1000);
    fraction(Due.built("C9999Pa0Pb0Pc0Pd0"), 1, 1, 9999, 10000);
    // Tents of higher levels fall only with the lowest ones.
    fraction(Due.built("C9999Pa0Pb0Pe0Ph0"), 4, 3, 49, 100);
    fraction(Due.built("C9999Pa0Pb0Pe0Ph0"), 2, 3, 49, 100);
    fraction(Due.built("C9999Pa0Pb0Pe0Ph0"), 1, 3, 91, 100);
  }

  private static void shakenLeastTerms() {
    D.sentence("FRACTIONS are told above, below, in least terms");
    CardHouse x = Due.built("C9999Pa0Pb0Pc0Pd0");
    fraction(x, 4, 5, 1, 16);
    fraction(x, 2, 5, 11, 16);
    fraction(x, 4, 2, 256, 625);
    fraction(x, 4, 8, 1, 625);
    fraction(x, 1, 9, 3439, 10000);
  }

  private static void seedAtFirst() {
    D.sentence("THE SEED, a long; 0 at first; 25: THE SEED is v: what it was");
    CardHouse x = new CardHouse();
    long[] seeds = {Long.MIN_VALUE, Long.MAX_VALUE, -1, 1, 1L << 32, -(1L << 31), 0};
    long was = 0;
    for (long v : seeds) {
      D.due("seed " + v, x.seed(v), was);
      was = v;
    }
  }

  private static void seedWraps() {
    D.sentence("x times 6364136223846793005 and 1442695040888963407 (64 bits, wrapping)");
    CardHouse x = new CardHouse();
    x.evenings(1);
    D.due("from 0", x.seed(1), MORE);
    x.evenings(1);
    D.due("from 1", x.seed(-1), 7806831264735756412L);
    x.evenings(1);
    D.due("from -1", x.seed(2), MORE - TIMES);
    x.evenings(1);
    // 2 times it is more than a long holds: less 2 to the 64.
    D.due("from 2", x.seed(Long.MIN_VALUE), -4275776585127002199L);
    x.evenings(1);
    D.due("from the least", x.seed(Long.MAX_VALUE), Long.MIN_VALUE + MORE);
    x.evenings(1);
    D.due("from the most", x.seed(0), Long.MIN_VALUE - TIMES + MORE);
  }

  private static void eveningsHowMany() {
    D.sentence("EVENINGS: m times (1 .. 30); 26: BAD: m");
    CardHouse x = Due.built("C9999");
    x.seed(9);
    for (int m : new int[] {LEAST, -30, -1, 0, 31, 32, MOST}) D.due("m " + m, x.evenings(m), -2);
    D.due("the seed stays", x.seed(9), 9);
    long seed = 9;
    for (int m = 1; m <= 30; m++) {
      seed = seed * TIMES + MORE;
      x.seed(9);
      int sum = x.evenings(m);
      D.due("0 or more by " + m, sum >= 0 && sum <= 16 * m ? 1 : 0, 1);
      D.due("the seed by " + m, x.seed(9), seed);
    }
  }

  /** A seed whose next x is this one. */
  private static long before(long next) {
    long inverse = 1;
    // Newton's steps double the good bits of the inverse modulo 2^64.
    for (int i = 0; i < 6; i++) inverse *= 2 - TIMES * inverse;
    return (next - MORE) * inverse;
  }

  private static int drawnFrom(String text, long next) {
    CardHouse x = Due.built(text);
    x.seed(before(next));
    int pieces = x.evenings(1);
    D.due("x became", x.seed(0), next);
    return pieces;
  }

  private static int drawn(String text, long upper) {
    return drawnFrom(text, upper << 33);
  }

  private static void eveningsUpperBits() {
    D.sentence("what is left of its upper 31 bits by 80");
    String four = "C9999Pa0Pb1Pc2Pd3";
    D.due("lower bits do not count", drawnFrom(four, (1L << 33) - 1), 4);
    D.due("lower bits do not count, of 66", drawnFrom(four, (66L << 33) + (1L << 33) - 1), 1);
    D.due("79 is the most", drawn(four, 79), 4);
    D.due("80 is 0", drawn("C9999", 80), 1);
    D.due("79 is not 0", drawn("C9999", 79), 0);
    D.due("146 is 66", drawn(four, 146), 1);
    // The upper bit is one of the 31, no sign: 2 to the 30 is 64, the most is 47.
    D.due("upper bit", drawn(four, 1L << 30), 3);
    D.due("all bits", drawn(Due.rows("C9999", "abcdefghij", 0), (1L << 31) - 1), 11);
    D.due("all bits, nothing under it", drawn(four, (1L << 31) - 1), 4);
  }

  private static void eveningsPut() {
    D.sentence("0 .. 63 that by 4 (down) is a PIECE that is PUT, of the KIND that is left by 4");
    for (int p = 0; p < 16; p++) {
      int pieces = (Ground.upTo(p).length() - 5) / 3;
      for (int k = 0; k < 4; k++) {
        String only = Ground.upTo(p).replace("C9999", "C9000");
        D.due(p + " of " + k, drawn(Ground.upTo(p), 4 * p + k), pieces + 1);
        D.due(p + " of " + k + ", only plain ones", drawn(only, 4 * p + k), pieces + (k == 0 ? 1 : 0));
      }
    }
    D.due("it is there", drawn("C9999Pa0", 0), 1);
    D.due("it falls at once with what is under it", drawn("C9999Pa0Pb0Pe1", 31), 2);
  }

  private static void eveningsDraught() {
    D.sentence("64 .. 75 that less 64, by 3 (down) is a LEVEL with a DRAUGHT of FORCE 2 and what is left by 3");
    // On each level a lone tent that is waxed, plain, worn, heavy: it holds 1, 2, 3, 4.
    int[] holds = {2, 3, 1, 4};
    for (int level = 0; level < 4; level++) {
      int tent = new int[] {0, 7, 12, 15}[level];
      for (int k = 0; k < 4; k++) {
        String text = Ground.upTo(tent) + "P" + Ground.letter(tent) + k;
        int pieces = (text.length() - 5) / 3;
        for (int force = 2; force <= 4; force++) {
          int due = holds[k] < force ? pieces - 1 : pieces;
          D.due("level " + level + " of " + k + ", " + force, drawn(text, 64 + 3 * level + force - 2), due);
        }
      }
    }
    D.due("63 is none", drawn("C9999Pa2", 63), 1);
    D.due("76 is none", drawn("C9999Pa2", 76), 1);
  }

  private static void eveningsTaken() {
    D.sentence("76 .. 79 that less 64 is a PIECE that is TAKEN, each if it can be");
    for (int p = 12; p < 16; p++) {
      String text = Ground.upTo(p) + "P" + Ground.letter(p) + "0";
      int pieces = (text.length() - 5) / 3;
      for (int q = 12; q < 16; q++) {
        D.due(q + " of those up to " + p, drawn(text, 64 + q), q == p ? pieces - 1 : pieces);
      }
    }
  }

  /** What x draws, done by the calls themselves. */
  private static void doDrawn(CardHouse x, int drawn) {
    if (drawn < 64) x.put(drawn / 4, drawn % 4);
    else if (drawn < 76) x.draught((drawn - 64) / 3, 2 + (drawn - 64) % 3);
    else x.take(drawn - 64);
  }

  private static void eveningsEachTime() {
    D.sentence("PIECES that are there, each time, together");
    String[] texts = {"C9999", "C1111Pa0Pb1", "C9999Pa0Pb1Pe1", Ground.WHOLE};
    for (String text : texts) {
      for (long first = -20; first < 20; first++) {
        CardHouse x = Due.built(text);
        CardHouse y = Due.built(text);
        long seed = first;
        int together = 0;
        for (int m = 1; m <= 30; m++) {
          seed = seed * TIMES + MORE;
          doDrawn(y, (int) ((seed >>> 33) % 80));
          together += y.about(0);
          x.seed(first);
          D.due(text + ", seed " + first + ", " + m + " times", x.evenings(m), together);
        }
      }
    }
    D.due("of no cards", Due.built("C0000").evenings(30), 0);
  }

  private static void eveningsFromNow() {
    D.sentence("EVENINGS: from PIECES as they are now");
    CardHouse x = Due.built("C9999Pa0Pb0");
    // 79 takes the last tent: there is none, so what stands now is counted.
    long nothing = before(79L << 33);
    int[] due = {2, 1, 2, 3, 2};
    for (int i = 0; i < 5; i++) {
      x.seed(nothing);
      D.due("as it is at " + i, x.evenings(1), due[i]);
      if (i == 0) x.take(1);
      if (i == 1) x.put(2, 3);
      if (i == 2) x.put(1, 0);
      if (i == 3) x.undo();
    }
    // A tent is put in one call, and is not there in the next.
    x.seed(before(12L << 33));
    D.due("tent 3 is put", x.evenings(1), 3);
    x.seed(nothing);
    D.due("not in the next call", x.evenings(1), 2);
  }

  private static void eveningsChangeNothing() {
    D.sentence("(Nothing changes but THE SEED.)");
    CardHouse x = Due.built("C9999Pa0Pb0Pe1");
    CardHouse y = Due.built("C9999Pa0Pb0Pe1");
    x.take(4);
    y.take(4);
    for (int i = 0; i < 9; i++) x.evenings(30);
    x.seed(0);
    D.same("evenings", Look.at(x), Look.at(y));
  }
}
