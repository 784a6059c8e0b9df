/** Brings a new object to the edges of its lengths. */
final class Filled {
  static final int[] WRITERS = {0, 1, 2, 3, 4, 5, 6, 7};
  static final int[] OPEN = {0, 1, 2, 3, 4, 5};
  static final int[] SHEETS = {0, 1, 2};
  static final int[] ROLLS = {3, 4, 5};
  static final int[] SLOTS = {0, 1, 2, 3};
  static final int[] ROWS = {0, 1};
  static final int[] PRESSES = {0, 1};
  static final int[] DOORS = {0, 1, 2, 3, 4, 5, 6};

  static final String LETTERS = "abcdefghijklmnopqrstuvwxyz   ,//";

  private Filled() { }

  /** The 24 signs of a text. */
  static String seeded(int seed) {
    StringBuilder signs = new StringBuilder();
    for (int i = 0; i < 24; i++) {
      signs.append(LETTERS.charAt((seed + 5 * i) % 32));
    }
    return signs.toString();
  }

  /** What an open writer has behind open() with that length. */
  static String text(int length) {
    StringBuilder signs = new StringBuilder();
    for (int seed = 0; seed < 5; seed++) {
      signs.append(seeded(seed));
    }
    return signs.substring(0, length);
  }

  static void open(Manydoors x, int writer, int length) {
    for (int seed = 0; 24 * seed < length; seed++) {
      x.putText(writer, seed, 0, Math.min(24, length - 24 * seed), 0);
    }
  }

  /** By way of roll 5 (of 120 signs at most), which has no sign then. */
  static void slot(Manydoors x, int slot, int length) {
    x.reset(5);
    open(x, 5, length);
    x.keep(slot, 5);
    x.reset(5);
  }

  /** By way of roll 5 (of 120 signs at most), which has no sign then. */
  static void row(Manydoors x, int row, int length) {
    x.reset(5);
    open(x, 5, length);
    x.takeRow(row, 5);
    x.reset(5);
  }

  /** A page of up to 240 signs, the longest there is (but not 238 or 239): indented words, each with a slash. */
  static void page(Manydoors x, int press, int length) {
    x.begin(press, 4, 3);
    for (int i = 0; i < length / 5; i++) {
      x.feedLetter(press, 0, 0);
      x.feedLetter(press, 30, 0);
    }
    for (int i = 0; i < length % 5; i++) {
      x.feedLetter(press, 31, 0);
    }
  }

  /** What a page has behind page() with that length. */
  static String pageText(int length) {
    return "   a/".repeat(length / 5) + "/".repeat(length % 5);
  }

  static void slotOfPage(Manydoors x, int slot, int length) {
    page(x, 1, length);
    x.keep(slot, 7);
    x.begin(1, 12, 0);
  }

  static void rowOfPage(Manydoors x, int row, int length) {
    page(x, 1, length);
    x.takeRow(row, 7);
    x.begin(1, 12, 0);
  }

  static void fed(Manydoors x, int press, int length) {
    for (int seed = 0; 24 * seed < length; seed++) {
      x.feed(press, seed, 0, Math.min(24, length - 24 * seed), 0);
    }
  }

  /** Spells signs of LETTERS on an open writer. */
  static void spelt(Manydoors x, int writer, String signs) {
    for (char sign : signs.toCharArray()) {
      x.putLetter(writer, LETTERS.indexOf(sign), 0);
    }
  }

  /** Feeds signs of LETTERS, one by one. */
  static void fedWith(Manydoors x, int press, String signs) {
    for (char sign : signs.toCharArray()) {
      x.feedLetter(press, LETTERS.indexOf(sign), 0);
    }
  }

  /**
   * Something of all: sheet 0 with steps both ways, sheet 1 full, sheet 2 without a step; roll 3 marked,
   * roll 4 full, roll 5 without a sign; press 0 within a word, press 1 with all the fed that it can have.
   */
  static void rich(Manydoors x) {
    spelt(x, 0, "ab, c/d");
    x.turn(0);
    x.cut(0, 1, 3);
    x.undo(0, 2);
    open(x, 1, 120);
    open(x, 3, 9);
    x.mark(3);
    x.putText(3, 20, 0, 5, 0);
    open(x, 4, 120);
    x.begin(0, 9, 2);
    fedWith(x, 0, "ab,cd e/f,gh");
    fed(x, 1, 96);
    x.keep(0, 0);
    x.keep(1, 6);
    x.takeRow(0, 3);
    x.takeRow(1, 4);
    x.cutAt(2, 0);
    x.knock();
  }
}
