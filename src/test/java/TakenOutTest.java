/** Promises 16 to 22: rolls, and the texts and rows that are taken out. */
public final class TakenOutTest {
  private static final Check check = new Check("TakenOutTest");

  public static void main(String[] args) {
    marks();
    resets();
    keeping();
    keepingParts();
    takingRows();
    changingRows();
    longPages();
    check.finish();
  }

  private static void marks() {
    Manydoors x = new Manydoors();
    check.act(x, "back to nothing", () -> x.back(4), 0);
    x.putText(4, 0, 0, 5, 0);
    check.act(x, "mark", () -> x.mark(4), 5);
    check.act(x, "back at the mark", () -> x.back(4), 0);
    x.putText(4, 1, 0, 3, 0);
    check.due("mark stays as more is put", x.markOf(4), 5);
    check.act(x, "back", () -> x.back(4), 3);
    check.due("what stays", x.text(4, 0), "afkpu");
    check.due("the mark stays", x.markOf(4), 5);
    check.due("other rolls have their own", x.markOf(3) + x.markOf(5), 0);
    check.act(x, "a roll without a mark", () -> x.back(3), 0);
    x.putLetter(5, 0, 0);
    check.act(x, "back to mark 0", () -> x.back(5), 1);
    check.due("nothing stays", x.text(5, 0), "");
  }

  private static void resets() {
    Manydoors x = new Manydoors();
    check.act(x, "reset of nothing", () -> x.reset(3), 0);
    x.putText(3, 0, 0, 5, 0);
    x.mark(3);
    check.act(x, "reset", () -> x.reset(3), 5);
    check.due("no sign", x.text(3, 0), "");
    check.due("mark 0", x.markOf(3), 0);
    x.putText(3, 1, 0, 5, 0);
    check.due("from the start", x.text(3, 0), "bglqv");
    check.act(x, "all goes back", () -> x.back(3), 5);
  }

  private static void keeping() {
    Manydoors x = new Manydoors();
    check.act(x, "nothing for nothing", () -> x.keep(0, 6), 0);
    x.putText(1, 0, 0, 5, 0);
    check.act(x, "a text", () -> x.keep(0, 1), 1);
    check.act(x, "the same", () -> x.keep(0, 1), 0);
    check.due("kept", x.keptText(0), "afkpu");
    x.turn(1);
    x.undo(1, 2);
    check.due("it stays, whatever comes later", x.keptText(0), "afkpu");
    check.act(x, "another one, without a sign", () -> x.keep(0, 1), 1);
    check.due("kept", x.keptText(0), "");
    x.feed(0, 0, 0, 7, 0);
    check.act(x, "a page", () -> x.keep(3, 6), 1);
    check.due("a page", x.keptText(3), "afkpuz/");
    x.begin(0, 8, 0);
    check.due("a page that is gone", x.keptText(3), "afkpuz/");
    x.putText(5, 3, 0, 4, 0);
    x.keep(1, 5);
    x.reset(5);
    check.due("a roll that was reset", x.keptText(1), "dins");
  }

  private static void keepingParts() {
    Manydoors x = new Manydoors();
    x.putText(3, 0, 0, 10, 0);
    check.act(x, "a part", () -> x.keepPart(2, 3, 2, 5), 3);
    check.due("a part", x.keptText(2), "kpu");
    check.act(x, "without a sign", () -> x.keepPart(2, 3, 10, 10), 0);
    check.due("without a sign", x.keptText(2), "");
    check.act(x, "all", () -> x.keepPart(2, 3, 0, 10), 10);
    check.notDone(x, "beyond the end", () -> x.keepPart(2, 3, 0, 11));
    check.notDone(x, "from behind to", () -> x.keepPart(2, 3, 4, 3));
    check.notDone(x, "both behind the end", () -> x.keepPart(2, 3, 11, 11));
    check.due("all is kept still", x.keptText(2), "afkpuz/din");
  }

  private static void takingRows() {
    Manydoors x = new Manydoors();
    x.putText(2, 0, 0, 10, 0);
    check.act(x, "a row", () -> x.takeRow(1, 2), 10);
    x.cut(2, 3, 120);
    check.due("it stays", x.rowText(1), "afkpuz/din");
    check.act(x, "a shorter one in its place", () -> x.takeRow(1, 2), 3);
    check.due("the shorter one", x.rowText(1), "afk");
    check.due("the other row", x.rowText(0), "");
    check.act(x, "nothing", () -> x.takeRow(1, 7), 0);
    check.due("nothing", x.rowText(1), "");
  }

  private static void changingRows() {
    Manydoors x = new Manydoors();
    check.notDone(x, "a row without signs", () -> x.changeRow(0, 0, 0));
    x.putText(4, 0, 0, 4, 0);
    x.takeRow(0, 4);
    x.takeRow(1, 4);
    check.act(x, "another one", () -> x.changeRow(0, 3, 26), 1);
    check.act(x, "the same by another letter", () -> x.changeRow(0, 3, 28), 0);
    check.notDone(x, "at the end", () -> x.changeRow(0, 4, 0));
    check.notDone(x, "far behind", () -> x.changeRow(0, 120, 0));
    check.due("the row", x.rowText(0), "afk ");
    check.due("the other row", x.rowText(1), "afkp");
    check.due("the roll", x.text(4, 0), "afkp");
  }

  /** A page of 240 signs, the longest there is, comes whole into slots and rows. */
  private static void longPages() {
    Manydoors x = new Manydoors();
    x.begin(1, 4, 3);
    for (int i = 0; i < 48; i++) {
      x.feedLetter(1, 0, 0);
      x.feedLetter(1, 30, 0);
    }
    String page = "   a/".repeat(48);
    check.due("the longest page", x.text(7, 0), page);
    check.act(x, "kept", () -> x.keep(0, 7), 1);
    check.due("kept", x.keptText(0), page);
    check.act(x, "row", () -> x.takeRow(0, 7), 240);
    check.due("row", x.rowText(0), page);
    check.due("turned", x.turned(7), "/a   ".repeat(48));
    check.due("set", x.wouldSet(0, 4, 3), page);
    check.act(x, "a part of it", () -> x.putRow(3, 0, 120, 24), 24);
    check.notDone(x, "too long to pour", () -> x.pour(7, 3));
    check.notDone(x, "too long to put", () -> x.putKept(3, 0, 0));
    check.notDone(x, "too long to feed", () -> x.feedKept(0, 0, 0));
    check.due("the last place asked", x.signAt(7, 120), 32);
    check.due("sound", x.isSound(), true);
  }
}
