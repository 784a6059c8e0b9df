/** All that an object tells of itself, but how many acts it counted. Takes some 220 calls and walks its steps. */
final class Whole {
  private Whole() { }

  static String told(Manydoors x) {
    StringBuilder all = new StringBuilder(Check.stateOf(x));
    all.append(x.isSound());
    for (int sheet = 0; sheet < 3; sheet++) {
      all.append('|').append(walked(x, sheet));
    }
    return all.toString();
  }

  /** The sheet's texts, back to the oldest step and on to the newest one. */
  private static String walked(Manydoors x, int sheet) {
    StringBuilder texts = new StringBuilder();
    int behind = x.steps(sheet, false);
    int all = behind + x.steps(sheet, true);
    for (int i = 0; i < behind; i++) {
      texts.append(x.undo(sheet, 1)).append(x.text(sheet, 0)).append('|');
    }
    for (int i = 0; i < all; i++) {
      texts.append(x.redo(sheet, 1)).append(x.text(sheet, 0)).append('|');
    }
    return texts.append(x.undo(sheet, 12)).append(x.text(sheet, 0)).toString();
  }
}
