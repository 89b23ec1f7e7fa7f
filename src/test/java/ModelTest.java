import java.util.Random;

/** Runs of calls by a fixed seed, each answer compared with the slow model's. */
public final class ModelTest {
  private static final Due D = new Due();

  public static void main(String[] args) {
    for (int run = 0; run < 300; run++) {
      new Run(run).go();
    }
    D.end();
  }

  private static final class Run {
    final Random r;
    final CardHouse x = new CardHouse();
    final Model m = new Model();
    final int run;
    int calls = 0;

    Run(int run) {
      this.run = run;
      r = new Random(run);
    }

    void go() {
      while (calls < 440) {
        if (calls == 0 || r.nextInt(90) == 0) text();
        else if (run % 3 == 0) call(6 + r.nextInt(12));
        else call(r.nextInt(40));
        look();
      }
    }

    void due(String call, long got, long want) {
      calls++;
      D.due("run " + run + ", call " + calls + ", " + m.text + ": " + call, got, want);
    }

    /** Mostly a house, now and then with a byte spoilt or cut short. */
    void text() {
      due("wipe", x.wipe(), m.wipe());
      String t = someHouse();
      if (r.nextInt(5) == 0) t = t.substring(0, r.nextInt(t.length() + 1));
      int spoilt = r.nextInt(5) == 0 && !t.isEmpty() ? r.nextInt(t.length()) : -1;
      for (int i = 0; i < t.length(); i++) {
        int letter = i == spoilt ? near(t.charAt(i)) : t.charAt(i);
        due("write " + letter, x.write(letter), m.write(letter));
      }
      due("fault", x.fault(), m.fault());
      due("house", x.house(), m.house());
    }

    int near(char c) {
      int way = r.nextInt(3);
      if (way == 0) return Math.max(0, Math.min(255, c + r.nextInt(5) - 2));
      return "CPap0q34/:".charAt(r.nextInt(10));
    }

    String someHouse() {
      StringBuilder t = new StringBuilder("C");
      boolean few = r.nextInt(4) == 0;
      for (int k = 0; k < 4; k++) t.append(few ? r.nextInt(3) : 5 + r.nextInt(5));
      int wanted = r.nextInt(17);
      for (int tries = 0; tries < 300 && wanted > 0; tries++) {
        String more = "P" + (char) ('a' + r.nextInt(16)) + r.nextInt(4);
        if (Model.told(t + more) != null) {
          t.append(more);
          wanted--;
        }
      }
      return t.toString();
    }

    int number(int most) {
      return r.nextInt(25) == 0 ? r.nextInt(3) - 1 + (r.nextBoolean() ? most : 0) : r.nextInt(most + 1);
    }

    void look() {
      due("about 1", x.about(1), m.about(1));
      due("about 3", x.about(3), m.about(3));
    }

    void call(int which) {
      int p = number(15);
      int q = number(15);
      int k = number(3);
      int two = number(1);
      boolean upper = r.nextBoolean();
      switch (which) {
        case 0: due("fault", x.fault(), m.fault()); break;
        case 1: due("write", x.write(p - 1), m.write(p - 1)); break;
        case 2: int what = number(7); due("about " + what, x.about(what), m.about(what)); break;
        case 3: due("deck " + k, x.deck(k), m.deck(k)); break;
        case 4: case 5: int of = number(4); due("piece " + p + " " + of, x.piece(p, of), m.piece(p, of)); break;
        case 6: case 7: case 8: case 9: case 10: case 11: case 12:
          due("put " + p + " " + k, x.put(p, k), m.put(p, k)); break;
        case 13: case 14: due("take " + p, x.take(p), m.take(p)); break;
        case 15: int f = number(9); due("draught " + k + " " + f, x.draught(k, f), m.draught(k, f)); break;
        case 16: case 17: due("undo", x.undo(), m.undo()); break;
        case 18: due("open " + k, x.open(k), m.open(k)); break;
        case 19: due("spread " + p, x.spread(p), m.spread(p)); break;
        case 20: due("stands " + k, x.stands(k), m.stands(k)); break;
        case 21: due("wants " + p + " " + two, x.wants(p, two), m.wants(p, two)); break;
        case 22: case 23: due("fit " + p, x.fit(p), m.fit(p)); break;
        case 24: case 25: case 26: judge(); break;
        case 27: due("share " + k, x.share(k, upper), m.share(k, upper)); break;
        case 28: case 29: int force = number(9); int l = number(9); int h = number(1);
          due("hold", x.hold(two, force, l, h), m.hold(two, force, l, h)); break;
        case 30: if (r.nextInt(3) == 0) due("unhold", x.unhold(), m.unhold()); break;
        case 31: due("tents " + two, x.tents(two), m.tents(two)); break;
        case 32: case 33: case 34:
          due("rests " + p + " " + q + " " + two, x.rests(p, q, two), m.rests(p, q, two)); break;
        case 35: if (r.nextInt(6) == 0) shaken(upper); break;
        case 36: long v = r.nextLong(); due("seed", x.seed(v), m.seed(v)); break;
        case 37: int n = number(30); due("evenings " + n, x.evenings(n), m.evenings(n)); break;
        case 38: due("keep " + two, x.keep(two), m.keep(two)); break;
        default: due("again " + two, x.again(two), m.again(two));
      }
    }

    void shaken(boolean upper) {
      int v = number(16);
      int x10 = number(10);
      due("shaken " + v + " " + x10, x.shaken(v, x10, upper), m.shaken(v, x10, upper));
    }

    void judge() {
      int n = number(4);
      StringBuilder row = new StringBuilder();
      for (int i = 0; i < Math.max(1, Math.min(4, n)); i++) row.append(doing());
      long told = r.nextInt(30) == 0 ? r.nextLong() : Long.parseLong(row.toString());
      due("judge " + n + " " + told, x.judge(n, told), m.judge(n, told));
    }

    String doing() {
      int p = r.nextInt(15) == 0 ? r.nextInt(100) : r.nextInt(16);
      String two = "" + p / 10 + p % 10;
      int zero = r.nextInt(15) == 0 ? r.nextInt(10) : 0;
      switch (r.nextInt(12)) {
        case 0: case 1: case 2: case 3: return "1" + two + r.nextInt(r.nextInt(8) == 0 ? 10 : 4);
        case 4: case 5: return "2" + two + zero;
        case 6: case 7: return "30" + r.nextInt(r.nextInt(8) == 0 ? 10 : 4) + r.nextInt(10);
        case 8: return "4" + two + zero;
        case 9: return "5" + two + zero;
        case 10: return "31" + r.nextInt(4) + r.nextInt(10);
        default: return "" + r.nextInt(10) + two + zero;
      }
    }
  }
}
