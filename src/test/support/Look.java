/** All that later calls show of an object; to look uses up what can be undone and what was kept. */
final class Look {
  private final CardHouse x;
  private final StringBuilder seen = new StringBuilder();

  private Look(CardHouse x) {
    this.x = x;
  }

  static String at(CardHouse x) {
    Look look = new Look(x);
    look.all();
    return look.seen.toString();
  }

  private void all() {
    see("fault", x.fault());
    for (int what = 0; what < 8; what++) see("about" + what, x.about(what));
    for (int kind = 0; kind < 4; kind++) see("deck" + kind, x.deck(kind));
    pieces();
    see("tents", x.tents(0));
    see("first", x.tents(1));
    see("evenings", x.evenings(5));
    see("seed", x.seed(1));
    // The row of acts is 14 at most; one more shows that it is at its end.
    for (int i = 0; i < 15; i++) {
      see("undo", x.undo());
      pieces();
    }
    for (int slot = 0; slot < 2; slot++) {
      see("again" + slot, x.again(slot));
      pieces();
    }
    see("house", x.house());
    pieces();
    see("wipe", x.wipe());
    see("unhold", x.unhold());
  }

  private void pieces() {
    int there = x.about(1);
    see("there", there);
    see("fell", x.about(3));
    for (int p = 0; p < 16; p++) if ((there >> p & 1) != 0) seen.append(x.piece(p, 0));
    seen.append(' ');
  }

  private void see(String what, long answer) {
    seen.append(what).append(' ').append(answer).append(", ");
  }
}
