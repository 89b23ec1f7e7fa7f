/** Promises 23 to 26: two who build, tents that fall by chance, evenings by a seed. */
public final class ChancesTest {
  private static final Due D = new Due();

  public static void main(String[] args) {
    promise23Refusals();
    promise23Rests();
    promise24Shaken();
    promise25Seed();
    promise26Evenings();
    D.end();
  }

  private static void promise23Refusals() {
    CardHouse x = Due.built("C9999Pa0");
    D.due("23 one below", x.rests(-1, 1, 0), -1);
    D.due("23 one above", x.rests(16, 1, 0), -1);
    D.due("23 other below", x.rests(1, -1, 0), -1);
    D.due("23 other above", x.rests(1, 16, 0), -1);
    D.due("23 unknown ahead of bad", x.rests(16, 16, 2), -1);
    D.due("23 both are one", x.rests(1, 1, 0), -2);
    D.due("23 what", x.rests(1, 2, 2), -2);
    D.due("23 what below", x.rests(1, 2, -1), -2);
    D.due("23 bad ahead of late", x.rests(0, 0, 0), -2);
    D.due("23 what ahead of late", x.rests(0, 1, 2), -2);
    D.due("23 one is there", x.rests(0, 1, 0), -3);
    D.due("23 other is there", x.rests(1, 0, 0), -3);
  }

  private static void promise23Rests() {
    // Any kind for each, and each is better off by it.
    D.due("23 all kinds", Due.built("C9999").rests(0, 1, 0), 16);
    D.due("23 the first", Due.built("C9999").rests(0, 1, 1), 0);
    D.due("23 worn alone", Due.built("C0900").rests(0, 1, 1), 11);
    // Nothing can be put: none is chosen.
    D.due("23 none chosen", Due.built("C9999").rests(4, 5, 1), 44);
    D.due("23 none chosen, one", Due.built("C9999").rests(4, 5, 0), 1);
    // The flat waits for the tent: the one first.
    CardHouse x = Due.built("C9090Pa0");
    D.due("23 tent first", x.rests(1, 4, 0), 4);
    D.due("23 tent first, which", x.rests(1, 4, 1), 0);
    D.due("23 flat first", x.rests(4, 1, 1), 40);
    D.due("23 flat first, how many", x.rests(4, 1, 0), 2);
    // Cards for one tent only: who is second goes without, or the first leaves it.
    CardHouse y = Due.built("C1000");
    D.due("23 one tent", y.rests(0, 1, 0), 1);
    D.due("23 one tent, the one's", y.rests(0, 1, 1), 4);
    // Kinds 0, 1, 3 for each; but of a worn flat with a heavy tent on it nothing stands.
    CardHouse z = Due.built("C3109Pa0Pb0");
    D.due("23 nothing changed", z.about(5), 0);
    D.due("23 kinds that bear", z.rests(4, 7, 0), 8);
    D.due("23 kinds that bear, first", z.rests(4, 7, 1), 0);
    D.due("23 still nothing", z.about(1), 3);
  }

  private static void shaken(CardHouse x, int v, int tenths, int above, int below) {
    D.due("24 shaken " + v + " " + tenths, x.shaken(v, tenths, true), above);
    D.due("24 below " + v + " " + tenths, x.shaken(v, tenths, false), below);
  }

  private static void promise24Shaken() {
    CardHouse x = Due.built("C9999Pa0Pb0Pe0");
    D.due("24 v below", x.shaken(-1, 0, true), -2);
    D.due("24 v above", x.shaken(17, 0, true), -2);
    D.due("24 x below", x.shaken(0, -1, true), -2);
    D.due("24 x above", x.shaken(0, 11, true), -2);
    shaken(x, 0, 10, 1, 1);
    shaken(x, 1, 10, 0, 1);
    shaken(x, 3, 0, 1, 1);
    shaken(x, 4, 0, 0, 1);
    shaken(x, 16, 0, 0, 1);
    // Three stand if neither falls, two never, one if one of them does.
    shaken(x, 3, 3, 49, 100);
    shaken(x, 2, 3, 49, 100);
    shaken(x, 1, 3, 91, 100);
    shaken(x, 1, 5, 3, 4);
    // A tent that is not there does not fall: tenths alone.
    shaken(Due.built("C9999Pd0"), 1, 4, 3, 5);
    shaken(Due.built("C9999Pa0Pb0Pc0Pd0"), 4, 1, 6561, 10000);
    shaken(Due.built("C9999Pa0Pb0Pc0Pd0"), 1, 9, 3439, 10000);
    shaken(Due.built("C9999Pa0Pb0Pc0Pd0"), 2, 5, 11, 16);
    D.due("24 nothing changed", x.about(1), 19);
    D.due("24 nothing fell", x.about(3), 0);
  }

  private static void promise25Seed() {
    CardHouse x = new CardHouse();
    D.due("25 at first", x.seed(Long.MIN_VALUE), 0);
    D.due("25 least", x.seed(Long.MAX_VALUE), Long.MIN_VALUE);
    D.due("25 most", x.seed(-1), Long.MAX_VALUE);
    D.due("25 the last", x.seed(0), -1);
    x.evenings(1);
    D.due("25 one step from 0", x.seed(1), 1442695040888963407L);
    x.evenings(1);
    D.due("25 one step from 1", x.seed(0), 6364136223846793005L + 1442695040888963407L);
    D.due("25 bad", x.evenings(31), -2);
    D.due("25 bad leaves it", x.seed(0), 0);
  }

  /** A seed whose next x is this one. */
  private static long before(long next) {
    long inverse = 1;
    // Newton's steps double the good bits of the inverse modulo 2^64.
    for (int i = 0; i < 6; i++) inverse *= 2 - 6364136223846793005L * inverse;
    return (next - 1442695040888963407L) * inverse;
  }

  private static int drawn(String text, int r) {
    CardHouse x = Due.built(text);
    x.seed(before((long) r << 33));
    int pieces = x.evenings(1);
    D.due("26 x became", x.seed(0), (long) r << 33);
    return pieces;
  }

  private static void promise26Evenings() {
    String four = "C9999Pa0Pb1Pc2Pd3";
    D.due("26 put 4 of 0", drawn(four, 16), 5);
    D.due("26 there already", drawn(four, 0), 4);
    D.due("26 put 15 can not be", drawn(four, 63), 4);
    D.due("26 put 7 can not be", drawn(four, 28), 4);
    D.due("26 force 2 takes waxed", drawn(four, 64), 3);
    D.due("26 force 3 takes plain too", drawn(four, 65), 2);
    D.due("26 force 4 takes worn too", drawn(four, 66), 1);
    D.due("26 another level", drawn(four, 67), 4);
    D.due("26 no piece 12 to take", drawn(four, 76), 4);
    D.due("26 80 and on is as 0", drawn(four, 80 + 16), 5);
    D.due("26 160 and on as well", drawn(four, 160 + 66), 1);
    String whole = Due.rows("C9900", "abcdefghi", 0) + Due.rows("", "jklmnop", 1);
    D.due("26 take 15", drawn(whole, 79), 15);
    D.due("26 14 is under 15", drawn(whole, 78), 16);
    String most = Due.rows("C9009", "abcdefghijklmno", 0);
    D.due("26 put 15 of 3", drawn(most, 63), 16);
    D.due("26 the last level", drawn(most, 75), 15);
    D.due("26 level 2 of force 3", drawn(most, 71), 12);
    D.due("26 no piece 12 to be taken from under 14", drawn(most, 76), 15);
    D.due("26 take 14", drawn(most, 78), 14);
    D.due("26 take 12", drawn(Due.rows("C9009", "abcdefghijklm", 0), 76), 12);
    D.due("26 level 3 of force 4", drawn(whole, 75), 15);
    D.due("26 level 3 of force 3 is held by a worn tent", drawn(whole, 74), 16);
    D.due("26 a heavy tent on a worn flat", drawn("C9999Pa0Pb0Pe1", 31), 2);
    // The doings follow on one another, and each time counts: a put, then nothing more by chance.
    CardHouse x = Due.built("C9999");
    int sum = 0;
    x.seed(12345);
    for (int i = 1; i <= 30; i++) {
      x.seed(12345);
      int now = x.evenings(i);
      D.due("26 not less " + i, now >= sum ? 1 : 0, 1);
      sum = now;
    }
    D.due("26 nothing changed", x.about(1), 0);
    D.due("26 nothing fell", x.about(3), 0);
    D.due("26 no acts", x.about(5), 0);
    D.due("26 bad", x.evenings(0), -2);
    D.due("26 bad above", x.evenings(31), -2);
  }
}
