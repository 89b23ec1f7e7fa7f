/** What the tests share: it compares answers with those that are due, and tells a house. */
final class Due {
  private int wrong = 0;
  private int calls = 0;

  void due(String call, long got, long want) {
    calls++;
    if (got != want) {
      wrong++;
      System.out.println(call + " answered " + got + ", due is " + want);
    }
  }

  void end() {
    System.out.println(wrong == 0 ? calls + " answers are as due" : wrong + " answers are not as due");
    if (wrong != 0) System.exit(1);
  }

  static void tell(CardHouse x, String text) {
    x.wipe();
    for (int i = 0; i < text.length(); i++) x.write(text.charAt(i));
  }

  /** A new object of which the text is the house. */
  static CardHouse built(String text) {
    CardHouse x = new CardHouse();
    tell(x, text);
    x.house();
    return x;
  }

  /** A text of this head and these pieces, all of one kind. */
  static String rows(String head, String pieces, int kind) {
    StringBuilder text = new StringBuilder(head);
    for (int i = 0; i < pieces.length(); i++) text.append('P').append(pieces.charAt(i)).append(kind);
    return text.toString();
  }
}
