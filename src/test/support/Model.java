import java.math.BigInteger;
import java.util.ArrayList;
import java.util.List;
import java.util.TreeMap;
import java.util.TreeSet;

/**
 * The document's words done the slow way, with none of the class's shortcuts: the ground by
 * formulas, loads by recursion, faults by trying what could follow, shares by all 24 orders.
 */
final class Model {
  static final int UNKNOWN = -1, BAD = -2, LATE = -3, FULL = -4, NONE = -9;
  static final int[] TENT_START = {0, 7, 12, 15};
  static final int[] FLAT_START = {4, 10, 14, 99};

  /** What stands: kinds by piece, and what fell. */
  static final class State {
    TreeMap<Integer, Integer> kinds = new TreeMap<>();
    int fell;
    int[] cards = new int[4];

    State copy() {
      State s = new State();
      s.kinds.putAll(kinds);
      s.fell = fell;
      s.cards = cards.clone();
      return s;
    }
  }

  State now = new State();
  StringBuilder text = new StringBuilder();
  List<State> acts = new ArrayList<>();
  State[] slots = new State[2];
  List<int[]> held = new ArrayList<>();
  BigInteger seed = BigInteger.ZERO;

  // ---- the ground

  static int level(int p) {
    for (int l = 3; l > 0; l--) if (p >= TENT_START[l]) return l;
    return 0;
  }

  static boolean tent(int p) {
    return p < FLAT_START[level(p)];
  }

  static List<Integer> under(int p) {
    List<Integer> on = new ArrayList<>();
    int l = level(p);
    if (tent(p)) {
      if (l > 0) on.add(FLAT_START[l - 1] + p - TENT_START[l]);
    } else {
      int i = p - FLAT_START[l];
      on.add(TENT_START[l] + i);
      on.add(TENT_START[l] + i + 1);
    }
    return on;
  }

  static int size(int p) {
    return tent(p) ? 2 : 1;
  }

  static int bears(int kind) {
    return kind == 0 ? 60 : kind == 1 ? 30 : kind == 2 ? 45 : 80;
  }

  static int grip(int kind) {
    return kind == 1 ? 8 : kind == 2 ? -8 : 0;
  }

  static int weight(int p, int kind) {
    return size(p) * (kind == 3 ? 16 : 8);
  }

  // ---- a state

  static double load(State s, int p) {
    double sum = 0;
    for (int q : s.kinds.keySet()) {
      if (under(q).contains(p)) {
        double all = weight(q, s.kinds.get(q)) + load(s, q);
        sum += tent(p) ? all / 2 : all;
      }
    }
    return sum;
  }

  static int left(State s, int kind) {
    int n = s.cards[kind];
    for (int p : s.kinds.keySet()) if (s.kinds.get(p) == kind) n -= size(p);
    return n;
  }

  static boolean can(State s, int p, int kind) {
    if (p > 15 || kind > 3 || s.kinds.containsKey(p)) return false;
    return s.kinds.keySet().containsAll(under(p)) && left(s, kind) >= size(p);
  }

  static TreeSet<Integer> fallWith(State s, TreeSet<Integer> first) {
    TreeSet<Integer> gone = new TreeSet<>(first);
    gone.retainAll(s.kinds.keySet());
    boolean more = true;
    while (more) {
      more = false;
      for (int p : s.kinds.keySet()) {
        for (int q : under(p)) if (gone.contains(q) && gone.add(p)) more = true;
      }
    }
    return gone;
  }

  static int fall(State s, TreeSet<Integer> first) {
    TreeSet<Integer> gone = fallWith(s, first);
    for (int p : gone) s.kinds.remove(p);
    s.fell += gone.size();
    return gone.size();
  }

  static int settle(State s) {
    int n = 0;
    while (true) {
      TreeSet<Integer> weak = new TreeSet<>();
      for (int p : s.kinds.keySet()) if (load(s, p) > bears(s.kinds.get(p))) weak.add(p);
      if (weak.isEmpty()) return n;
      n += fall(s, weak);
    }
  }

  static int doPut(State s, int p, int kind) {
    s.kinds.put(p, kind);
    return settle(s);
  }

  static boolean free(State s, int p) {
    if (!s.kinds.containsKey(p)) return false;
    for (int q : s.kinds.keySet()) if (under(q).contains(p)) return false;
    return true;
  }

  static boolean holds(State s, int p, int f) {
    int kind = s.kinds.get(p);
    return weight(p, kind) + load(s, p) + grip(kind) >= 8 * f;
  }

  static int doDraught(State s, int l, int f) {
    TreeSet<Integer> falling = new TreeSet<>();
    for (int p : s.kinds.keySet()) if (tent(p) && level(p) == l && !holds(s, p, f)) falling.add(p);
    return fall(s, falling) + settle(s);
  }

  static int bits(Iterable<Integer> pieces) {
    int b = 0;
    for (int p : pieces) b += 1 << p;
    return b;
  }

  // ---- the text

  /** The state that a whole text tells, or null if it is no house. */
  static State told(String t) {
    if (!t.matches("(?s)C[0-9]{4}(P[a-p][0-3])*")) return null;
    State s = new State();
    for (int k = 0; k < 4; k++) s.cards[k] = 3 * (t.charAt(1 + k) - '0');
    for (int i = 5; i < t.length(); i += 3) {
      int p = t.charAt(i + 1) - 'a';
      int k = t.charAt(i + 2) - '0';
      if (!can(s, p, k)) return null;
      s.kinds.put(p, k);
    }
    return s;
  }

  static boolean canGoOn(String t) {
    if (t.length() < 5) return told(t + "C9999".substring(t.length())) != null;
    if ((t.length() - 5) % 3 == 0) return told(t) != null;
    for (char a = 'a'; a <= 'p'; a++) {
      for (char k = '0'; k <= '3'; k++) {
        String whole = (t.length() - 5) % 3 == 1 ? t + a + k : t + k;
        if (told(whole) != null) return true;
      }
    }
    return false;
  }

  int write(int letter) {
    if (letter < 0 || letter > 255) return BAD;
    if (text.length() == 56) return FULL;
    text.append((char) letter);
    return text.length();
  }

  int wipe() {
    int n = text.length();
    text.setLength(0);
    return n;
  }

  int fault() {
    for (int i = 0; i < text.length(); i++) if (!canGoOn(text.substring(0, i + 1))) return i;
    return told(text.toString()) == null ? text.length() : NONE;
  }

  int house() {
    if (fault() != NONE) return LATE;
    now = told(text.toString());
    settle(now);
    now.fell = 0;
    acts.clear();
    slots = new State[2];
    return now.kinds.size();
  }

  int about(int what) {
    if (what == 0) return now.kinds.size();
    if (what == 1) return bits(now.kinds.keySet());
    if (what == 2) return left(now, 0) + left(now, 1) + left(now, 2) + left(now, 3);
    if (what == 3) return now.fell;
    if (what == 4) return now.kinds.isEmpty() ? NONE : level(now.kinds.lastKey());
    if (what == 5) return acts.size();
    if (what == 6) return held.size();
    if (what == 7) return text.length();
    return BAD;
  }

  int deck(int kind) {
    return in(kind, 0, 3) ? left(now, kind) : UNKNOWN;
  }

  int piece(int p, int what) {
    if (!in(p, 0, 15)) return UNKNOWN;
    if (!in(what, 0, 4)) return BAD;
    if (!now.kinds.containsKey(p)) return what == 0 ? NONE : LATE;
    int kind = now.kinds.get(p);
    if (what == 0) return kind;
    if (what == 1) return weight(p, kind);
    if (what == 2) return whole(load(now, p));
    if (what == 3) return bears(kind);
    return free(now, p) ? 1 : 0;
  }

  static int whole(double d) {
    if (d != Math.rint(d)) throw new IllegalStateException("a load that is not whole: " + d);
    return (int) d;
  }

  static boolean in(int v, int least, int most) {
    return v >= least && v <= most;
  }

  // ---- acts

  void act() {
    if (acts.size() == 14) acts.remove(0);
    acts.add(now.copy());
  }

  int put(int p, int kind) {
    if (!in(p, 0, 15) || !in(kind, 0, 3)) return UNKNOWN;
    if (now.kinds.containsKey(p)) return FULL;
    if (!can(now, p, kind)) return LATE;
    act();
    return doPut(now, p, kind);
  }

  int take(int p) {
    if (!in(p, 0, 15)) return UNKNOWN;
    if (!free(now, p)) return LATE;
    act();
    now.kinds.remove(p);
    return size(p);
  }

  int draught(int l, int f) {
    if (!in(l, 0, 3)) return UNKNOWN;
    if (!in(f, 1, 9)) return BAD;
    act();
    return doDraught(now, l, f);
  }

  int undo() {
    if (acts.isEmpty()) return LATE;
    now = acts.remove(acts.size() - 1);
    return acts.size();
  }

  // ---- what may be

  int open(int kind) {
    if (!in(kind, 0, 3)) return UNKNOWN;
    List<Integer> found = new ArrayList<>();
    for (int p = 0; p < 16; p++) if (can(now, p, kind)) found.add(p);
    return bits(found);
  }

  int spread(int p) {
    if (!in(p, 0, 15)) return UNKNOWN;
    if (!now.kinds.containsKey(p)) return LATE;
    return bits(fallWith(now, new TreeSet<>(List.of(p))));
  }

  int stands(int l) {
    if (!in(l, 0, 3)) return UNKNOWN;
    int f = 0;
    while (f < 9 && allHold(l, f + 1)) f++;
    return f;
  }

  boolean allHold(int l, int f) {
    for (int p : now.kinds.keySet()) if (tent(p) && level(p) == l && !holds(now, p, f)) return false;
    return true;
  }

  int wants(int p, int what) {
    if (!in(p, 0, 15)) return UNKNOWN;
    if (!in(what, 0, 1)) return BAD;
    TreeSet<Integer> missing = new TreeSet<>();
    need(p, missing);
    int n = 0;
    for (int q : missing) n += what == 0 ? 1 : size(q);
    return n;
  }

  void need(int p, TreeSet<Integer> missing) {
    if (now.kinds.containsKey(p)) return;
    missing.add(p);
    for (int q : under(p)) need(q, missing);
  }

  int fit(int p) {
    if (!in(p, 0, 15)) return UNKNOWN;
    if (now.kinds.containsKey(p)) return FULL;
    int best = NONE;
    for (int kind = 3; kind >= 0; kind--) {
      if (!can(now, p, kind) || doPut(now.copy(), p, kind) > 0) continue;
      if (best == NONE || weight(p, kind) <= weight(p, best)) best = kind;
    }
    return best;
  }

  int judge(int n, long row) {
    if (!in(n, 1, 4) || row < 0) return BAD;
    StringBuilder figures = new StringBuilder(Long.toString(row));
    if (figures.length() > 4 * n) return BAD;
    while (figures.length() < 4 * n) figures.insert(0, '0');
    State s = now.copy();
    for (int i = 0; i < n; i++) if (!done(s, figures.substring(4 * i, 4 * i + 4))) return i;
    return NONE;
  }

  static boolean done(State s, String d) {
    int two = Integer.parseInt(d.substring(1, 3));
    int last = d.charAt(3) - '0';
    char what = d.charAt(0);
    if (what == '1') {
      if (!can(s, two, last)) return false;
      doPut(s, two, last);
      return true;
    }
    if (what == '3') {
      if (d.charAt(1) != '0' || d.charAt(2) > '3' || last == 0) return false;
      doDraught(s, d.charAt(2) - '0', last);
      return true;
    }
    if (last != 0) return false;
    if (what == '2') {
      if (!free(s, two)) return false;
      s.kinds.remove(two);
      return true;
    }
    if (what == '4') return s.kinds.containsKey(two);
    return what == '5' && s.kinds.size() >= two;
  }

  int share(int t, boolean upper) {
    if (!in(t, 0, 3)) return UNKNOWN;
    int sum = 0;
    for (int code = 0; code < 256; code++) {
      int[] order = {code & 3, code >> 2 & 3, code >> 4 & 3, code >> 6 & 3};
      TreeSet<Integer> all = new TreeSet<>();
      for (int o : order) all.add(o);
      if (all.size() < 4) continue;
      for (int o : order) {
        int before = now.kinds.size() - fallWith(now, all).size();
        all.remove(o);
        int after = now.kinds.size() - fallWith(now, all).size();
        if (o == t) sum += after - before;
      }
    }
    return part(BigInteger.valueOf(sum), BigInteger.valueOf(24), upper);
  }

  static int part(BigInteger above, BigInteger below, boolean upper) {
    BigInteger g = above.gcd(below);
    return (upper ? above : below).divide(g).intValueExact();
  }

  // ---- held

  int hold(int w, int f, int l, int h) {
    if (!in(w, 0, 1) || !in(f, 1, 9) || !in(l, 0, 9) || !in(h, 0, 1)) return BAD;
    if (held.size() == 6) return FULL;
    held.add(new int[] {w, f, l, h});
    return held.size();
  }

  int unhold() {
    int n = held.size();
    held.clear();
    return n;
  }

  int tents(int what) {
    if (!in(what, 0, 1)) return BAD;
    int n = 0;
    int first = NONE;
    for (int pair = 0; pair < 16; pair++) {
      boolean so = true;
      for (int[] h : held) {
        int kind = h[0] == 0 ? pair / 4 : pair % 4;
        boolean held1 = weight(0, kind) + 8 * h[2] + grip(kind) >= 8 * h[1];
        if (held1 != (h[3] == 1)) so = false;
      }
      if (so && n++ == 0) first = 10 * (pair / 4) + pair % 4;
    }
    return what == 0 ? n : first;
  }

  // ---- rests, chances

  int[] has(int one, int other, int a, int b) {
    State s = now.copy();
    if (a < 4 && can(s, one, a)) doPut(s, one, a);
    if (b < 4 && can(s, other, b)) doPut(s, other, b);
    int n = s.kinds.size();
    return new int[] {
      n + (s.kinds.containsKey(one) ? 2 : 0) - (a < 4 ? 1 : 0),
      n + (s.kinds.containsKey(other) ? 2 : 0) - (b < 4 ? 1 : 0)
    };
  }

  int rests(int one, int other, int what) {
    if (!in(one, 0, 15) || !in(other, 0, 15)) return UNKNOWN;
    if (one == other || !in(what, 0, 1)) return BAD;
    if (now.kinds.containsKey(one) || now.kinds.containsKey(other)) return LATE;
    int n = 0;
    int first = NONE;
    for (int a = 0; a < 5; a++) {
      for (int b = 0; b < 5; b++) {
        int[] here = has(one, other, a, b);
        boolean rest = true;
        for (int c = 0; c < 5; c++) {
          if (has(one, other, c, b)[0] > here[0] || has(one, other, a, c)[1] > here[1]) rest = false;
        }
        if (rest && n++ == 0) first = 10 * a + b;
      }
    }
    return what == 0 ? n : first;
  }

  int shaken(int v, int x, boolean upper) {
    if (!in(v, 0, 16) || !in(x, 0, 10)) return BAD;
    // All four tents are shaken here, those that are not there for nothing.
    long sum = 0;
    for (int fate = 0; fate < 10000; fate++) {
      TreeSet<Integer> falling = new TreeSet<>();
      int rest = fate;
      for (int t = 0; t < 4; t++) {
        if (rest % 10 < x) falling.add(t);
        rest /= 10;
      }
      if (now.kinds.size() - fallWith(now, falling).size() >= v) sum++;
    }
    return part(BigInteger.valueOf(sum), BigInteger.valueOf(10000), upper);
  }

  long seed(long v) {
    long was = seed.longValue();
    seed = BigInteger.valueOf(v);
    return was;
  }

  int evenings(int m) {
    if (!in(m, 1, 30)) return BAD;
    State s = now.copy();
    int sum = 0;
    BigInteger two64 = BigInteger.ONE.shiftLeft(64);
    for (int i = 0; i < m; i++) {
      seed = seed.multiply(new BigInteger("6364136223846793005"))
          .add(new BigInteger("1442695040888963407")).mod(two64);
      int r = seed.shiftRight(33).mod(BigInteger.valueOf(80)).intValueExact();
      if (r <= 63) {
        if (can(s, r / 4, r % 4)) doPut(s, r / 4, r % 4);
      } else if (r <= 75) {
        doDraught(s, (r - 64) / 3, 2 + (r - 64) % 3);
      } else if (free(s, r - 64)) {
        s.kinds.remove(r - 64);
      }
      sum += s.kinds.size();
    }
    return sum;
  }

  // ---- slots

  int keep(int slot) {
    if (!in(slot, 0, 1)) return UNKNOWN;
    slots[slot] = now.copy();
    return now.kinds.size();
  }

  int again(int slot) {
    if (!in(slot, 0, 1)) return UNKNOWN;
    if (slots[slot] == null) return LATE;
    now = slots[slot].copy();
    acts.clear();
    return now.kinds.size();
  }
}
