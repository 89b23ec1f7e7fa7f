import java.util.function.Consumer;
import java.util.function.IntUnaryOperator;
import java.util.function.Supplier;
import java.util.function.ToIntFunction;

/**
 * "What is refused changes nothing", and "in what follows nothing is changed": of two objects made
 * alike one gets the call, and then both show the same in all that can be seen of them.
 */
public final class EdgesRefusalsTest {
  private static final Due D = new Due();
  private static final int[] NO_PIECE = {Integer.MIN_VALUE, -1, 16, Integer.MAX_VALUE};
  private static final int[] NO_FOURTH = {Integer.MIN_VALUE, -1, 4, Integer.MAX_VALUE};

  public static void main(String[] args) {
    refusedInAllStates("new", CardHouse::new);
    refusedInAllStates("busy", EdgesRefusalsTest::busy);
    refusedInAllStates("full", EdgesRefusalsTest::full);
    refusedWhenNew();
    refusedWhenBusy();
    refusedWhenFull();
    asked("new", CardHouse::new);
    asked("busy", EdgesRefusalsTest::busy);
    asked("full", EdgesRefusalsTest::full);
    D.end();
  }

  /** Some of all: fallen, acts, one slot, held, a seed, a text that is not at its end. */
  private static CardHouse busy() {
    CardHouse x = Due.built("C9919Pa0Pb0Pe1");
    x.put(7, 3);
    x.put(4, 2);
    x.keep(0);
    x.put(7, 1);
    x.put(2, 3);
    x.hold(0, 3, 0, 1);
    x.hold(1, 4, 0, 0);
    x.seed(-77);
    Due.tell(x, "C1234P");
    return x;
  }

  /** As much as can be: 16 pieces, 14 acts, both slots, 6 held, 56 bytes. */
  private static CardHouse full() {
    CardHouse x = Due.built(Ground.WHOLE);
    x.take(15);
    x.keep(0);
    x.keep(1);
    for (int i = 0; i < 17; i++) {
      if (i % 2 == 0) x.put(15, i / 2 % 2);
      else x.take(15);
    }
    for (int i = 0; i < 6; i++) x.hold(i % 2, 3, i, 1);
    x.seed(Long.MAX_VALUE);
    for (int i = 0; i < 3; i++) x.write(255);
    return x;
  }

  private static void refused(String state, Supplier<CardHouse> made, String call, int due,
      ToIntFunction<CardHouse> doing) {
    CardHouse x = made.get();
    D.sentence("What is refused changes nothing: " + state + ", " + call);
    D.due(call, doing.applyAsInt(x), due);
    D.same(call, Look.at(x), Look.at(made.get()));
  }

  /** Arguments that are wrong whatever there is. */
  private static void refusedInAllStates(String state, Supplier<CardHouse> made) {
    refused(state, made, "write -1", -2, x -> x.write(-1));
    refused(state, made, "write 256", -2, x -> x.write(256));
    for (int what : new int[] {-1, 8}) refused(state, made, "about " + what, -2, x -> x.about(what));
    for (int p : NO_PIECE) {
      refused(state, made, "piece " + p, -1, x -> x.piece(p, 0));
      refused(state, made, "put " + p, -1, x -> x.put(p, 0));
      refused(state, made, "take " + p, -1, x -> x.take(p));
      refused(state, made, "spread " + p, -1, x -> x.spread(p));
      refused(state, made, "wants " + p, -1, x -> x.wants(p, 0));
      refused(state, made, "fit " + p, -1, x -> x.fit(p));
      refused(state, made, "rests " + p, -1, x -> x.rests(p, 13, 0));
      refused(state, made, "rests other " + p, -1, x -> x.rests(13, p, 0));
    }
    for (int k : NO_FOURTH) {
      refused(state, made, "deck " + k, -1, x -> x.deck(k));
      refused(state, made, "put of " + k, -1, x -> x.put(3, k));
      refused(state, made, "draught level " + k, -1, x -> x.draught(k, 9));
      refused(state, made, "open " + k, -1, x -> x.open(k));
      refused(state, made, "stands " + k, -1, x -> x.stands(k));
      refused(state, made, "share " + k, -1, x -> x.share(k, true));
    }
    badInAllStates(state, made);
  }

  private static void badInAllStates(String state, Supplier<CardHouse> made) {
    for (int what : new int[] {-1, 5}) refused(state, made, "piece what " + what, -2, x -> x.piece(0, what));
    for (int f : new int[] {0, 10}) refused(state, made, "draught of " + f, -2, x -> x.draught(0, f));
    for (int two : new int[] {-1, 2}) {
      refused(state, made, "wants what " + two, -2, x -> x.wants(0, two));
      refused(state, made, "hold w " + two, -2, x -> x.hold(two, 9, 0, 1));
      refused(state, made, "hold held " + two, -2, x -> x.hold(0, 9, 0, two));
      refused(state, made, "tents what " + two, -2, x -> x.tents(two));
      refused(state, made, "rests what " + two, -2, x -> x.rests(12, 13, two));
      refused(state, made, "keep " + two, -1, x -> x.keep(two));
      refused(state, made, "again " + two, -1, x -> x.again(two));
    }
    for (int f : new int[] {0, 10}) refused(state, made, "hold f " + f, -2, x -> x.hold(0, f, 0, 1));
    for (int l : new int[] {-1, 10}) refused(state, made, "hold l " + l, -2, x -> x.hold(0, 9, l, 1));
    refused(state, made, "rests of one", -2, x -> x.rests(12, 12, 0));
    for (int n : new int[] {0, 5}) refused(state, made, "judge " + n, -2, x -> x.judge(n, 3009));
    for (long row : new long[] {-1, 10000}) refused(state, made, "judge row " + row, -2, x -> x.judge(1, row));
    for (int v : new int[] {-1, 17}) refused(state, made, "shaken v " + v, -2, x -> x.shaken(v, 5, true));
    for (int t : new int[] {-1, 11}) refused(state, made, "shaken x " + t, -2, x -> x.shaken(0, t, true));
    for (int m : new int[] {0, 31}) refused(state, made, "evenings " + m, -2, x -> x.evenings(m));
    refused(state, made, "house of a fault", -3, x -> x.house());
  }

  private static void refusedWhenNew() {
    Supplier<CardHouse> made = CardHouse::new;
    refused("new", made, "put without cards", -3, x -> x.put(0, 0));
    refused("new", made, "take what is not there", -3, x -> x.take(0));
    refused("new", made, "undo of none", -3, x -> x.undo());
    refused("new", made, "piece that is not there", -3, x -> x.piece(0, 1));
    refused("new", made, "spread of none", -3, x -> x.spread(0));
    refused("new", made, "again of none", -3, x -> x.again(0));
    refused("new", made, "again of the other none", -3, x -> x.again(1));
  }

  private static void refusedWhenBusy() {
    Supplier<CardHouse> made = EdgesRefusalsTest::busy;
    refused("busy", made, "put what is there", -4, x -> x.put(4, 0));
    refused("busy", made, "put on one tent", -3, x -> x.put(6, 0));
    refused("busy", made, "put of a kind without cards", -3, x -> x.put(14, 2));
    refused("busy", made, "take what is not there", -3, x -> x.take(3));
    refused("busy", made, "take from under a flat", -3, x -> x.take(0));
    refused("busy", made, "take from under a tent", -3, x -> x.take(4));
    refused("busy", made, "spread of none", -3, x -> x.spread(15));
    refused("busy", made, "fit what is there", -4, x -> x.fit(0));
    refused("busy", made, "rests of what is there", -3, x -> x.rests(0, 3, 0));
    refused("busy", made, "rests of another that is there", -3, x -> x.rests(3, 7, 1));
    refused("busy", made, "again of the slot that is empty", -3, x -> x.again(1));
  }

  private static void refusedWhenFull() {
    Supplier<CardHouse> made = EdgesRefusalsTest::full;
    refused("full", made, "write", -4, x -> x.write('C'));
    refused("full", made, "hold", -4, x -> x.hold(0, 9, 0, 1));
    refused("full", made, "hold of the other", -4, x -> x.hold(1, 9, 0, 1));
    for (int p = 0; p < 16; p++) {
      int piece = p;
      refused("full", made, "put " + p, -4, x -> x.put(piece, 3));
      refused("full", made, "fit " + p, -4, x -> x.fit(piece));
      if (p < 15) refused("full", made, "take " + p, -3, x -> x.take(piece));
    }
  }

  private static void unchanged(String state, Supplier<CardHouse> made, String call, Consumer<CardHouse> asking) {
    D.sentence("In what follows nothing is changed: " + state + ", " + call);
    CardHouse x = made.get();
    asking.accept(x);
    D.same(call, Look.at(x), Look.at(made.get()));
  }

  private static void asked(String state, Supplier<CardHouse> made) {
    unchanged(state, made, "fault", x -> x.fault());
    unchanged(state, made, "open", x -> each(4, x::open));
    unchanged(state, made, "spread", x -> each(16, x::spread));
    unchanged(state, made, "stands", x -> each(4, x::stands));
    unchanged(state, made, "wants", x -> each(16, p -> x.wants(p, p % 2)));
    unchanged(state, made, "fit", x -> each(16, x::fit));
    unchanged(state, made, "judge of draughts", x -> x.judge(4, 3009301930293039L));
    unchanged(state, made, "judge of puts", x -> x.judge(4, 1020103010501063L));
    unchanged(state, made, "judge of taking", x -> x.judge(2, 21502140L));
    unchanged(state, made, "share", x -> each(4, t -> x.share(t, true)));
    unchanged(state, made, "tents", x -> each(2, x::tents));
    unchanged(state, made, "rests", x -> each(16, p -> x.rests(p, 15 - p, p % 2)));
    unchanged(state, made, "shaken", x -> each(11, t -> x.shaken(t, t, true)));
    unchanged(state, made, "piece", x -> each(16, p -> x.piece(p, 2)));
    unchanged(state, made, "seed and back", x -> x.seed(x.seed(5)));
  }

  private static void each(int count, IntUnaryOperator call) {
    for (int i = 0; i < count; i++) call.applyAsInt(i);
  }
}
