/** Promises 7 to 15: what is done to the leaf of a sheet. */
public final class LeafTest {
  private static final Check check = new Check("LeafTest");

  public static void main(String[] args) {
    inserting();
    insertingNumbers();
    cutting();
    cuttingAt();
    changing();
    turning();
    toLengths();
    undoAndRedo();
    onlyTheNewestTwelve();
    newStepForgetsWhatWasTakenBack();
    everyActIsOneStep();
    sheetsStandAlone();
    check.finish();
  }

  private static Manydoors withText(int sheet, int seed, int many) {
    Manydoors x = new Manydoors();
    x.putText(sheet, seed, 0, many, 0);
    return x;
  }

  private static void inserting() {
    Manydoors x = withText(0, 0, 4);
    check.act(x, "at the front", () -> x.insert(0, 0, 1, 0, 2), 6);
    check.act(x, "within", () -> x.insert(0, 3, 2, 1, 2), 8);
    check.act(x, "at the end", () -> x.insert(0, 8, 3, 22, 2), 10);
    check.due("all of it", x.text(0, 0), "bgahmfkprw");
    check.act(x, "nothing", () -> x.insert(0, 5, 3, 24, 0), 10);
    check.notDone(x, "behind the end", () -> x.insert(0, 11, 0, 0, 0));
    check.notDone(x, "a part beyond the text", () -> x.insert(0, 0, 0, 20, 5));
    x.toLength(0, 119);
    check.notDone(x, "two at 119", () -> x.insert(0, 3, 0, 0, 2));
    check.act(x, "one at 119", () -> x.insert(0, 3, 0, 0, 1), 120);
    check.notDone(x, "one at 120", () -> x.insert(0, 120, 0, 0, 1));
    check.act(x, "none at 120", () -> x.insert(0, 120, 0, 0, 0), 120);
    check.due("the front", x.text(0, 0).substring(0, 11), "bgaahmfkprw");
  }

  private static void insertingNumbers() {
    int[] numbers = {0, 7, 10, 99, 100, 999, 1000, 9999, 1001, 5040, -1, -10, -305, -9999};
    for (int number : numbers) {
      Manydoors x = withText(2, 0, 2);
      String digits = String.valueOf(number);
      check.act(x, "number " + number, () -> x.insertNumber(2, 1, number), 2 + digits.length());
      check.due("number " + number, x.text(2, 0), "a" + digits + "f");
    }
    Manydoors x = withText(1, 0, 2);
    check.act(x, "at the end", () -> x.insertNumber(1, 2, -4), 4);
    check.act(x, "at the front", () -> x.insertNumber(1, 0, 12), 6);
    check.due("both", x.text(1, 0), "12af-4");
    check.notDone(x, "behind the end", () -> x.insertNumber(1, 7, 0));
    x.toLength(1, 116);
    check.notDone(x, "five at 116", () -> x.insertNumber(1, 0, -1000));
    check.act(x, "four at 116", () -> x.insertNumber(1, 0, -100), 120);
    check.notDone(x, "one at 120", () -> x.insertNumber(1, 0, 0));
  }

  private static void cutting() {
    Manydoors x = withText(0, 0, 6);
    check.act(x, "within", () -> x.cut(0, 1, 3), 2);
    check.due("within", x.text(0, 0), "apuz");
    check.act(x, "nothing", () -> x.cut(0, 2, 2), 0);
    check.act(x, "at the end", () -> x.cut(0, 4, 120), 0);
    check.notDone(x, "from behind the end", () -> x.cut(0, 5, 5));
    check.notDone(x, "from behind to", () -> x.cut(0, 2, 1));
    check.act(x, "beyond the end", () -> x.cut(0, 3, 5), 1);
    check.act(x, "all", () -> x.cut(0, 0, 120), 3);
    check.act(x, "nothing of nothing", () -> x.cut(0, 0, 0), 0);
    check.due("nothing is left", x.text(0, 0), "");
    check.due("steps", x.steps(0, false), 7);
  }

  private static void cuttingAt() {
    Manydoors x = withText(2, 0, 7);
    check.act(x, "the last", () -> x.cutAt(2, 6), 47);
    check.act(x, "the first", () -> x.cutAt(2, 0), 97);
    check.act(x, "within", () -> x.cutAt(2, 2), 112);
    check.due("what is left", x.text(2, 0), "fkuz");
    check.notDone(x, "at the end", () -> x.cutAt(2, 4));
    check.notDone(x, "far behind", () -> x.cutAt(2, 120));
    x.toLength(2, 5);
    check.act(x, "a blank", () -> x.cutAt(2, 4), 0);
  }

  private static void changing() {
    Manydoors x = withText(1, 0, 3);
    check.act(x, "another one", () -> x.change(1, 2, 31), 1);
    check.act(x, "the same sign by another letter", () -> x.change(1, 2, 30), 0);
    check.due("a slash", x.text(1, 0), "af/");
    check.due("both are steps", x.steps(1, false), 3);
    check.notDone(x, "at the end", () -> x.change(1, 3, 0));
    check.act(x, "the first", () -> x.change(1, 0, 29), 1);
    check.due("a comma", x.text(1, 0), ",f/");
    x.undo(1, 1);
    check.due("taken back", x.text(1, 0), "af/");
  }

  private static void turning() {
    Manydoors x = withText(0, 0, 5);
    check.act(x, "odd", () -> x.turn(0), 1);
    check.due("odd", x.text(0, 0), "upkfa");
    x.putLetter(0, 25, 0);
    check.act(x, "even", () -> x.turn(0), 1);
    check.due("even", x.text(0, 0), "zafkpu");
    x.cut(0, 1, 120);
    check.act(x, "one sign", () -> x.turn(0), 0);
    x.insertNumber(0, 0, 11);
    x.change(0, 0, 25);
    check.act(x, "the same turned", () -> x.turn(0), 0);
    check.due("the same turned", x.text(0, 0), "z1z");
    check.due("steps", x.steps(0, false), 9);
  }

  private static void toLengths() {
    Manydoors x = withText(2, 0, 5);
    check.act(x, "longer", () -> x.toLength(2, 8), 5);
    check.due("longer", x.text(2, 0), "afkpu\0\0\0");
    check.act(x, "the same", () -> x.toLength(2, 8), 8);
    check.act(x, "shorter", () -> x.toLength(2, 2), 8);
    check.act(x, "longer again", () -> x.toLength(2, 4), 2);
    check.due("blanks, not what had gone", x.text(2, 0), "af\0\0");
    check.act(x, "longest", () -> x.toLength(2, 120), 4);
    check.act(x, "nothing", () -> x.toLength(2, 0), 120);
    check.due("steps", x.steps(2, false), 7);
  }

  private static void undoAndRedo() {
    Manydoors x = new Manydoors();
    check.notDone(x, "undo of nothing", () -> x.undo(0, 1));
    check.notDone(x, "redo of nothing", () -> x.redo(0, 12));
    for (int letter = 0; letter < 5; letter++) {
      x.putLetter(0, letter, 0);
    }
    check.act(x, "undo 2", () -> x.undo(0, 2), 2);
    check.due("undo 2", x.text(0, 0), "abc");
    check.due("behind", x.steps(0, false), 3);
    check.due("ahead", x.steps(0, true), 2);
    check.act(x, "redo 1", () -> x.redo(0, 1), 1);
    check.due("redo 1", x.text(0, 0), "abcd");
    check.act(x, "undo more than there are", () -> x.undo(0, 12), 4);
    check.due("undo all", x.text(0, 0), "");
    check.notDone(x, "undo of no more", () -> x.undo(0, 1));
    check.act(x, "redo more than there are", () -> x.redo(0, 12), 5);
    check.due("redo all", x.text(0, 0), "abcde");
    check.notDone(x, "redo of no more", () -> x.redo(0, 1));
    check.due("steps at the end", x.steps(0, false), 5);
  }

  private static void onlyTheNewestTwelve() {
    Manydoors x = new Manydoors();
    for (int letter = 0; letter < 15; letter++) {
      x.putLetter(1, letter, 0);
      check.due("steps", x.steps(1, false), Math.min(letter + 1, 12));
    }
    check.act(x, "undo 12", () -> x.undo(1, 12), 12);
    check.due("three stay", x.text(1, 0), "abc");
    check.notDone(x, "the oldest are forgotten", () -> x.undo(1, 1));
    check.act(x, "redo 12", () -> x.redo(1, 12), 12);
    check.due("all again", x.text(1, 0), "abcdefghijklmno");
    check.due("steps", x.steps(1, false), 12);
  }

  private static void newStepForgetsWhatWasTakenBack() {
    Manydoors x = new Manydoors();
    for (int letter = 0; letter < 12; letter++) {
      x.putLetter(2, letter, 0);
    }
    x.undo(2, 7);
    check.notDone(x, "an act that is not done is no step", () -> x.cutAt(2, 5));
    check.due("what can be done again stays", x.steps(2, true), 7);
    x.turn(2);
    check.due("what can be done again is forgotten", x.steps(2, true), 0);
    check.due("what can be taken back", x.steps(2, false), 6);
    check.notDone(x, "redo", () -> x.redo(2, 1));
    x.undo(2, 1);
    check.due("ahead of the turn", x.text(2, 0), "abcde");
    x.redo(2, 1);
    check.due("behind the turn", x.text(2, 0), "edcba");
    x.undo(2, 12);
    check.due("ahead of all", x.text(2, 0), "");
  }

  private static void everyActIsOneStep() {
    Manydoors x = withText(0, 0, 4);
    x.keep(0, 0);
    x.takeRow(0, 0);
    Check.Call[] acts = {
      () -> x.putLetter(0, 1, 0),
      () -> x.putText(0, 1, 0, 0, 0),
      () -> x.putKept(0, 0, 3),
      () -> x.putRow(0, 0, 1, 1),
      () -> x.pour(3, 0),
      () -> x.insert(0, 0, 2, 0, 2),
      () -> x.insertNumber(0, 0, 12),
      () -> x.cut(0, 1, 1),
      () -> x.cutAt(0, 0),
      () -> x.change(0, 0, 0),
      () -> x.turn(0),
      () -> x.toLength(0, 4)
    };
    for (int i = 0; i < acts.length; i++) {
      String before = x.text(0, 0);
      int steps = x.steps(0, false);
      acts[i].run();
      String behind = x.text(0, 0);
      check.due("steps behind act " + i, x.steps(0, false), Math.min(steps + 1, 12));
      x.undo(0, 1);
      check.due("act " + i + " taken back", x.text(0, 0), before);
      x.redo(0, 1);
      check.due("act " + i + " done again", x.text(0, 0), behind);
    }
    int steps = x.steps(0, false);
    x.keep(1, 0);
    x.takeRow(1, 0);
    x.pour(0, 3);
    check.due("what only reads is no step", x.steps(0, false), steps);
  }

  private static void sheetsStandAlone() {
    Manydoors x = withText(0, 0, 4);
    x.putText(1, 1, 0, 4, 0);
    x.putText(2, 2, 0, 4, 0);
    x.turn(1);
    x.undo(2, 1);
    check.due("sheet 0", x.text(0, 0), "afkp");
    check.due("sheet 1", x.text(1, 0), "qlgb");
    check.due("sheet 2", x.text(2, 0), "");
    check.due("steps", x.steps(0, false) * 100 + x.steps(1, false) * 10 + x.steps(2, false), 120);
  }
}
