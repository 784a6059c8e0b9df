/** Promises 1 to 6: a new object, and what is written on writers. */
public final class PutTest {
  private static final Check check = new Check("PutTest");

  public static void main(String[] args) {
    newObject();
    letters();
    highDoesNotMatter();
    texts();
    doorsComeToTheSame();
    kept();
    rows();
    pouring();
    check.finish();
  }

  private static void newObject() {
    Manydoors x = new Manydoors();
    for (int writer = 0; writer < 8; writer++) {
      check.due("text of a new writer", x.text(writer, 0), "");
      check.due("length of a new writer", x.length(writer, 0), 0);
    }
    for (int slot = 0; slot < 4; slot++) {
      check.due("a new slot", x.keptText(slot), "");
    }
    for (int row = 0; row < 2; row++) {
      check.due("a new row", x.rowText(row), "");
    }
    for (int three = 0; three < 3; three++) {
      check.due("steps of a new sheet", x.steps(three, false) + x.steps(three, true), 0);
      check.due("mark of a new roll", x.markOf(three + 3), 0);
      check.due("house of a new object", x.house(three), 0);
    }
    int[] first = {12, 0, 0, 0, 0, 0, 1};
    for (int press = 0; press < 2; press++) {
      for (int what = 0; what < first.length; what++) {
        check.due("number " + what + " of a new press", x.pressNumber(press, what), first[what]);
      }
      check.due("word of a new press", x.word(press), "");
    }
    check.due("a new object is sound", x.isSound(), true);
  }

  private static void letters() {
    String signs = "abcdefghijklmnopqrstuvwxyz   ,//";
    for (int writer = 0; writer < 6; writer++) {
      Manydoors x = new Manydoors();
      for (int letter = 0; letter < 32; letter++) {
        final int at = writer;
        final int put = letter;
        check.act(x, "putLetter", () -> x.putLetter(at, put, 0), letter + 1);
      }
      check.due("the letters", x.text(writer, 0), signs);
      check.due("steps", writer < 3 ? x.steps(writer, false) : 12, 12);
    }
  }

  private static void highDoesNotMatter() {
    Manydoors x = new Manydoors();
    for (int high = -3; high <= 3; high++) {
      x.putLetter(0, 5, high);
      x.putLetter(4, 29, high);
    }
    check.due("letters with high", x.text(0, 0), "fffffff");
    check.due("commas with high", x.text(4, 0), ",,,,,,,");
  }

  private static void texts() {
    Manydoors x = new Manydoors();
    check.act(x, "a whole text", () -> x.putText(3, 0, 0, 24, 0), 24);
    check.due("text 0", x.text(3, 0), "afkpuz/dinsx bglqv /ejot");
    check.act(x, "a part", () -> x.putText(2, 31, 1, 5, 3), 5);
    check.due("a part of text 31", x.text(2, 0), "ejoty");
    check.act(x, "a part without a sign", () -> x.putText(2, 31, 24, 0, 3), 5);
    check.due("that is a step too", x.steps(2, false), 2);
    check.notDone(x, "a part beyond the end", () -> x.putText(2, 31, 24, 1, 3));
    check.notDone(x, "a part beyond the end", () -> x.putText(3, 31, 1, 24, 3));
  }

  private static void doorsComeToTheSame() {
    for (int writer = 0; writer < 6; writer++) {
      Manydoors first = filled(writer, 0);
      for (int door = 1; door < 7; door++) {
        check.due("door " + door, filled(writer, door).digest(), first.digest());
      }
    }
  }

  private static Manydoors filled(int writer, int door) {
    Manydoors x = new Manydoors();
    x.putText(writer, 27, 0, 7, door);
    x.keep(0, writer);
    x.putKept(writer, 0, door);
    x.putText(writer, 30, 3, 20, door);
    return x;
  }

  private static void kept() {
    Manydoors x = new Manydoors();
    x.putText(5, 3, 0, 4, 0);
    x.keep(2, 5);
    check.act(x, "putKept", () -> x.putKept(5, 2, 4), 8);
    check.due("what was kept, twice", x.text(5, 0), "dinsdins");
    check.act(x, "putKept on a sheet", () -> x.putKept(1, 2, 6), 4);
    check.act(x, "an empty slot", () -> x.putKept(1, 0, 6), 4);
    check.due("steps", x.steps(1, false), 2);
  }

  private static void rows() {
    Manydoors x = new Manydoors();
    x.putText(0, 0, 0, 24, 0);
    x.putText(0, 1, 0, 24, 0);
    x.takeRow(1, 0);
    check.act(x, "putRow", () -> x.putRow(3, 1, 30, 5), 5);
    check.due("a part of a row", x.text(3, 0), "/ejot");
    check.act(x, "the row's end", () -> x.putRow(3, 1, 24, 24), 29);
    check.act(x, "behind its end", () -> x.putRow(3, 1, 48, 0), 29);
    check.notDone(x, "beyond its end", () -> x.putRow(3, 1, 25, 24));
    check.notDone(x, "beyond its end", () -> x.putRow(3, 1, 49, 0));
    check.notDone(x, "a row without signs", () -> x.putRow(3, 0, 0, 1));
    check.act(x, "a sheet", () -> x.putRow(0, 1, 0, 0), 48);
    check.due("steps", x.steps(0, false), 3);
  }

  private static void pouring() {
    Manydoors x = new Manydoors();
    x.putText(0, 0, 0, 3, 0);
    x.putText(3, 1, 0, 3, 0);
    check.act(x, "sheet on roll", () -> x.pour(0, 3), 6);
    check.due("sheet on roll", x.text(3, 0), "bglafk");
    check.act(x, "roll on itself", () -> x.pour(3, 3), 12);
    check.due("roll on itself", x.text(3, 0), "bglafkbglafk");
    check.act(x, "sheet on itself", () -> x.pour(0, 0), 6);
    check.due("sheet on itself", x.text(0, 0), "afkafk");
    x.undo(0, 1);
    check.due("taken back", x.text(0, 0), "afk");
    x.feed(1, 2, 0, 3, 0);
    x.feedLetter(1, 26, 0);
    check.act(x, "page on sheet", () -> x.pour(7, 0), 6);
    check.due("page on sheet", x.text(0, 0), "afkchm");
    check.act(x, "a page without a sign", () -> x.pour(6, 0), 6);
    check.due("steps", x.steps(0, false), 3);
  }
}
