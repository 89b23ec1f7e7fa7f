/** What the tests share: it compares answers with those that are due, and tells a house. */
final class Due {
  private int wrong = 0;
  private int calls = 0;
  private int sentences = 0;
  private String sentence = "";

  /** The words of the document that the answers from here on belong to. */
  void sentence(String words) {
    sentences++;
    sentence = "[" + words + "] ";
  }

  void due(String call, long got, long want) {
    calls++;
    if (got != want) {
      wrong++;
      System.out.println(sentence + call + " answered " + got + ", due is " + want);
    }
  }

  void same(String what, String got, String want) {
    calls++;
    if (!got.equals(want)) {
      wrong++;
      System.out.println(sentence + what + " shows\n  " + got + "\ndue is\n  " + want);
    }
  }

  void end() {
    String of = sentences == 0 ? "" : " of " + sentences + " sentences";
    System.out.println(wrong == 0 ? calls + " answers" + of + " are as due" : wrong + " answers are not as due");
    if (wrong != 0) System.exit(1);
  }

  static void tell(CardHouse x, String text) {
    x.wipe();
    for (int i = 0; i < text.length(); i++) x.write(text.charAt(i));
  }

  /** A new object of which the text is the house. */
  static CardHouse built(String text) {
    CardHouse x = new CardHouse();
    tell(x, text);
    x.house();
    return x;
  }

  /** A text of this head and these pieces, all of one kind. */
  static String rows(String head, String pieces, int kind) {
    StringBuilder text = new StringBuilder(head);
    for (int i = 0; i < pieces.length(); i++) text.append('P').append(pieces.charAt(i)).append(kind);
    return text.toString();
  }
}
