import java.util.Random;

/** No call throws, whatever its arguments are, and a wrong one is refused and changes nothing. */
public final class AnyArgumentsTest {
  private static final Due D = new Due();
  private static final int[] ODD = {
    Integer.MIN_VALUE, Integer.MIN_VALUE + 1, -65536, -33, -32, -17, -16, -9, -2, -1,
    0, 1, 2, 3, 4, 5, 9, 10, 15, 16, 17, 31, 32, 33, 56, 64, 255, 256, 65536, Integer.MAX_VALUE
  };

  public static void main(String[] args) {
    String whole = Due.rows("C9900", "abcdefghi", 0) + Due.rows("", "jklmnop", 1);
    String[] texts = {"", "C0000", "C9999", "C9999Pa0Pb1Pe1", whole};
    for (String text : texts) {
      for (int seed = 0; seed < 40; seed++) calls(text, new Random(seed));
    }
    far();
    D.end();
  }

  private static void calls(String text, Random r) {
    CardHouse x = Due.built(text);
    for (int i = 0; i < 400; i++) {
      int a = ODD[r.nextInt(ODD.length)];
      int b = ODD[r.nextInt(ODD.length)];
      int c = ODD[r.nextInt(ODD.length)];
      long far = r.nextBoolean() ? r.nextLong() : a;
      long answer = call(x, r.nextInt(28), new int[] {a, b, c}, far);
      D.due("an answer in its range", answer >= -9 && answer <= 65535 ? 1 : 0, 1);
    }
  }

  private static long call(CardHouse x, int which, int[] v, long far) {
    switch (which) {
      case 0: return x.write(v[0]);
      case 1: return v[0] == 3 ? x.wipe() : x.fault();
      case 2: return x.fault();
      case 3: return x.house();
      case 4: return x.about(v[0]);
      case 5: return x.deck(v[0]);
      case 6: return x.piece(v[0], v[1]);
      case 7: return x.put(v[0], v[1]);
      case 8: return x.take(v[0]);
      case 9: return x.draught(v[0], v[1]);
      case 10: return x.undo();
      case 11: return x.open(v[0]);
      case 12: return x.spread(v[0]);
      case 13: return x.stands(v[0]);
      case 14: return x.wants(v[0], v[1]);
      case 15: return x.fit(v[0]);
      case 16: return x.judge(v[0], far);
      case 17: return x.share(v[0], v[1] > 0);
      case 18: return x.hold(v[0], v[1], v[2], 1);
      case 19: return x.unhold();
      case 20: return x.tents(v[0]);
      case 21: return x.rests(v[0], v[1], v[2]);
      case 22: return x.shaken(v[0], v[1], v[2] > 0);
      case 23: return x.seed(far) * 0;
      case 24: return x.evenings(v[0]);
      case 25: return x.keep(v[0]);
      case 26: return x.again(v[0]);
      default: return x.judge(4, far);
    }
  }

  /** Numbers that would look like good ones if only their low bits were looked at. */
  private static void far() {
    CardHouse x = Due.built("C9999Pa0Pb0");
    for (int far : new int[] {32, 33, 64, -32, -31, 1 << 16, Integer.MIN_VALUE, Integer.MAX_VALUE}) {
      D.due("deck", x.deck(far), -1);
      D.due("piece", x.piece(far, 0), -1);
      D.due("put", x.put(far, 0), -1);
      D.due("take", x.take(far), -1);
      D.due("draught", x.draught(far, 1), -1);
      D.due("open", x.open(far), -1);
      D.due("spread", x.spread(far), -1);
      D.due("stands", x.stands(far), -1);
      D.due("wants", x.wants(far, 0), -1);
      D.due("fit", x.fit(far), -1);
      D.due("share", x.share(far, true), -1);
      D.due("rests", x.rests(far, 2, 0), -1);
      D.due("rests other", x.rests(2, far, 0), -1);
      D.due("keep", x.keep(far), -1);
      D.due("again", x.again(far), -1);
      D.due("judge", x.judge(far, 0), -2);
      D.due("evenings", x.evenings(far), -2);
      D.due("tents", x.tents(far), -2);
    }
    D.due("nothing changed", x.about(1), 3);
    D.due("no acts", x.about(5), 0);
  }
}
