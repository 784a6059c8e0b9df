/** Promises 27 to 38: what is asked of writers, slots, rows, sheets and rolls. */
public final class AskedTest {
  private static final Check check = new Check("AskedTest");

  public static void main(String[] args) {
    textsAndLengths();
    signs();
    orders();
    finds();
    turnedAndJoined();
    keptAndRows();
    stepsAndMarks();
    askingChangesNothing();
    check.finish();
  }

  /** Writers 0 to 7 with texts of their own; writer 2 has none. */
  private static Manydoors filled() {
    Manydoors x = new Manydoors();
    x.putText(0, 0, 0, 6, 0);
    x.putText(1, 0, 0, 3, 0);
    x.putText(3, 1, 0, 3, 0);
    x.putText(4, 26, 0, 3, 0);
    x.putText(5, 0, 0, 6, 0);
    x.feed(0, 2, 0, 6, 0);
    x.feed(1, 4, 0, 6, 0);
    x.feedLetter(1, 7, 0);
    return x;
  }

  private static void textsAndLengths() {
    Manydoors x = filled();
    String[] due = {"afkpuz", "afk", "", "bgl", " /e", "afkpuz", "chmrw", "ejoty"};
    for (int writer = 0; writer < 8; writer++) {
      for (int how = 0; how < 3; how++) {
        check.due("text of " + writer + " by " + how, x.text(writer, how), due[writer]);
      }
      for (int how = 0; how < 2; how++) {
        check.due("length of " + writer, x.length(writer, how), due[writer].length());
      }
    }
  }

  private static void signs() {
    Manydoors x = filled();
    check.due("first", x.signAt(0, 0), 97);
    check.due("last", x.signAt(0, 5), 122);
    check.due("behind the last", x.signAt(0, 6), -9);
    check.due("far behind", x.signAt(0, 120), -9);
    check.due("of a text without signs", x.signAt(2, 0), -9);
    check.due("a space", x.signAt(4, 0), 32);
    check.due("a slash", x.signAt(4, 1), 47);
    check.due("of a page", x.signAt(7, 4), 121);
    x.toLength(2, 1);
    check.due("a blank", x.signAt(2, 0), 0);
    x.cut(0, 5, 6);
    check.due("a sign that is gone", x.signAt(0, 5), -9);
  }

  private static void orders() {
    Manydoors x = filled();
    check.due("the shorter one ahead", x.order(1, 0), -1);
    check.due("the longer one", x.order(0, 1), 1);
    check.due("the same", x.order(0, 5), 0);
    check.due("itself", x.order(3, 3), 0);
    check.due("the lesser sign", x.order(0, 3), -1);
    check.due("the greater sign, though shorter", x.order(3, 0), 1);
    check.due("none against some", x.order(2, 4), -1);
    check.due("pages", x.order(7, 6), 1);
    check.due("space ahead of letters", x.order(4, 1), -1);
    x.toLength(2, 1);
    check.due("blank ahead of space", x.order(2, 4), -1);
    x.toLength(1, 4);
    check.due("blank is a sign", x.order(1, 0), -1);
  }

  private static void finds() {
    Manydoors x = new Manydoors();
    x.putText(0, 0, 0, 3, 0);
    x.pour(0, 0);
    x.pour(0, 0);
    x.keepPart(1, 0, 0, 3);
    x.keepPart(2, 0, 2, 5);
    x.keep(3, 0);
    check.due("first", x.find(0, 1, false), 0);
    check.due("last", x.find(0, 1, true), 9);
    check.due("first within", x.find(0, 2, false), 2);
    check.due("last within", x.find(0, 2, true), 8);
    check.due("nothing, first", x.find(0, 0, false), 0);
    check.due("nothing, last", x.find(0, 0, true), 12);
    check.due("all, first", x.find(0, 3, false), 0);
    check.due("all, last", x.find(0, 3, true), 0);
    x.putText(4, 0, 0, 2, 0);
    check.due("longer than the text", x.find(4, 1, false), -1);
    check.due("longer than the text", x.find(4, 1, true), -1);
    check.due("nothing in nothing", x.find(5, 0, true), 0);
    check.due("some in nothing", x.find(5, 1, false), -1);
    x.change(0, 10, 0);
    x.change(0, 1, 0);
    check.due("first of what is left", x.find(0, 1, false), 3);
    check.due("last of what is left", x.find(0, 1, true), 6);
    x.toLength(2, 3);
    x.keepPart(1, 2, 0, 2);
    check.due("overlapping, last", x.find(2, 1, true), 1);
    check.due("a page", x.find(6, 0, true), 0);
  }

  private static void turnedAndJoined() {
    Manydoors x = filled();
    check.due("turned", x.turned(0), "zupkfa");
    check.due("nothing turned", x.turned(2), "");
    check.due("page turned", x.turned(7), "ytoje");
    for (boolean isLeft : new boolean[] {true, false}) {
      check.due("joined", x.joined(1, 4, 3, isLeft), "afk /ebgl");
      check.due("joined with nothing", x.joined(2, 3, 2, isLeft), "bgl");
      check.due("joined with itself", x.joined(3, 3, 3, isLeft), "bglbglbgl");
    }
    x.toLength(0, 120);
    check.due("the longest", x.joined(0, 0, 0, true), ("afkpuz" + "\0".repeat(114)).repeat(3));
  }

  private static void keptAndRows() {
    Manydoors x = filled();
    check.due("nothing is kept, and there is none", x.isKept(0, 2), true);
    check.due("nothing is kept, but there is some", x.isKept(0, 1), false);
    x.keep(3, 0);
    x.takeRow(1, 7);
    check.due("keptText", x.keptText(3), "afkpuz");
    check.due("isKept of its writer", x.isKept(3, 0), true);
    check.due("isKept of another with the same", x.isKept(3, 5), true);
    check.due("isKept of the shorter one", x.isKept(3, 1), false);
    check.due("rowText", x.rowText(1), "ejoty");
    x.turn(0);
    check.due("isKept of a turned one", x.isKept(3, 0), false);
    x.keep(2, 6);
    check.due("isKept of a page", x.isKept(2, 6), true);
  }

  private static void stepsAndMarks() {
    Manydoors x = filled();
    x.turn(0);
    x.turn(0);
    x.undo(0, 2);
    check.due("back", x.steps(0, false), 1);
    check.due("again", x.steps(0, true), 2);
    check.due("of another", x.steps(1, false) * 10 + x.steps(1, true), 10);
    x.mark(4);
    check.due("markOf", x.markOf(4), 3);
    check.due("markOf another", x.markOf(3), 0);
  }

  private static void askingChangesNothing() {
    Manydoors x = filled();
    long before = x.digest();
    x.text(0, 1);
    x.length(0, 1);
    x.signAt(0, 100);
    x.order(0, 1);
    x.find(0, 0, true);
    x.turned(0);
    x.joined(0, 1, 3, true);
    x.keptText(0);
    x.isKept(0, 0);
    x.rowText(0);
    x.steps(0, true);
    x.markOf(3);
    x.wouldSet(0, 4, 0);
    x.line(0, 0);
    x.word(0);
    x.pressNumber(0, 0);
    x.house(0);
    x.isSound();
    check.due("digest() behind all that is asked", x.digest(), before);
  }
}
