/** The sixteen pieces as the document's terms tell them, written out. */
final class Ground {
  /** What each piece is on. */
  static final int[][] ON = {
    {}, {}, {}, {}, {0, 1}, {1, 2}, {2, 3}, {4}, {5}, {6}, {7, 8}, {8, 9}, {10}, {11}, {12, 13}, {14}
  };
  static final int[] LEVEL = {0, 0, 0, 0, 0, 0, 0, 1, 1, 1, 1, 1, 2, 2, 2, 3};
  static final boolean[] TENT = {
    true, true, true, true, false, false, false, true, true, true, false, false, true, true, false, true
  };
  /** Sixteen pieces of 15 plain and 11 worn cards: all of them stand. */
  static final String WHOLE = Due.rows("C9900", "abcdefghi", 0) + Due.rows("", "jklmnop", 1);

  static int cards(int piece) {
    return TENT[piece] ? 2 : 1;
  }

  /** Plain pieces: all but the one that is left out and what could not be without it. */
  static String without(int left) {
    StringBuilder text = new StringBuilder("C9999");
    boolean[] told = new boolean[16];
    for (int p = 0; p < 16; p++) {
      told[p] = p != left && allTold(told, p);
      if (told[p]) text.append('P').append(letter(p)).append('0');
    }
    return text.toString();
  }

  private static boolean allTold(boolean[] told, int piece) {
    for (int q : ON[piece]) if (!told[q]) return false;
    return true;
  }

  /** Plain pieces that are needed so that this one can be put, and no other. */
  static String upTo(int piece) {
    boolean[] needed = new boolean[16];
    need(piece, needed);
    StringBuilder text = new StringBuilder("C9999");
    for (int p = 0; p < piece; p++) if (needed[p]) text.append('P').append(letter(p)).append('0');
    return text.toString();
  }

  private static void need(int piece, boolean[] needed) {
    needed[piece] = true;
    for (int q : ON[piece]) need(q, needed);
  }

  static char letter(int piece) {
    return (char) ('a' + piece);
  }
}
