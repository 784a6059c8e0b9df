/** Promises 16 to 22 and 38, and the MARKS of 'Terms' 3, at their edges; each method stands for a sentence. */
public final class TakenOutEdgesTest {
  private static final Check check = new Check("TakenOutEdgesTest");
  private static final Edge edge = new Edge(check);

  public static void main(String[] args) {
    resetOfNoneAndOfAll();
    resetTakesTheMark();
    markOfNoneAndOfAll();
    backOfNoneAndOfAll();
    backKeepsTheMark();
    markAndResetAloneChangeTheMark();
    everyRollHasItsOwnMark();
    keepOfAnother();
    keepOfTheSame();
    keepOfLongPages();
    partUpToTheEnd();
    partFromUpToTo();
    partWithoutASign();
    partOfALongPage();
    rowInPlaceOfItsOwn();
    rowOfLongPages();
    changeAtTheLastPlaceAndBehindIt();
    changeToTheSame();
    changeOfALongRow();
    check.finish();
  }

  private static Edge.Setting filled(int writer, int length) {
    return x -> Filled.open(x, writer, length);
  }

  /** 16: "It has no SIGN then .. Returns its LENGTH till then." */
  private static void resetOfNoneAndOfAll() {
    for (int roll : Filled.ROLLS) {
      for (int length : new int[] {0, 1, 119, 120}) {
        Manydoors x = edge.done("reset of " + length, filled(roll, length), y -> y.reset(roll), length);
        check.due("no sign", x.text(roll, 0), "");
        check.due("again", x.reset(roll), 0);
        Filled.open(x, roll, 120);
        check.due("it can be filled again", x.text(roll, 0), Filled.text(120));
      }
    }
    edge.noIndex("a sheet", Edge.NEW, x -> x.reset(2));
    edge.noIndex("a page", Edge.NEW, x -> x.reset(6));
  }

  /** 16: "and MARK 0." */
  private static void resetTakesTheMark() {
    for (int roll : Filled.ROLLS) {
      Edge.Setting marked = x -> {
        Filled.open(x, roll, 120);
        x.mark(roll);
      };
      Manydoors x = edge.done("reset of a marked one", marked, y -> y.reset(roll), 120);
      check.due("its mark", x.markOf(roll), 0);
      x.putLetter(roll, 0, 0);
      check.due("back", x.back(roll), 1);
    }
  }

  /** 17: "Its MARK becomes its LENGTH. Returns that." 38: "Returns its MARK." */
  private static void markOfNoneAndOfAll() {
    for (int roll : Filled.ROLLS) {
      for (int length : new int[] {0, 1, 119, 120}) {
        Manydoors x = edge.done("mark of " + length, filled(roll, length), y -> y.mark(roll), length);
        check.due("its mark", x.markOf(roll), length);
        check.due("its text", x.text(roll, 0), Filled.text(length));
        check.due("the same again", x.mark(roll), length);
      }
      edge.asked("a new mark", Edge.NEW, x -> x.markOf(roll), 0);
    }
    edge.noIndex("mark of a sheet", Edge.NEW, x -> x.mark(2));
    edge.noIndex("mark of a page", Edge.NEW, x -> x.mark(6));
  }

  /** 18: "It keeps as many of its first SIGNS as its MARK is; the others go. Returns how many went." */
  private static void backOfNoneAndOfAll() {
    for (int roll : Filled.ROLLS) {
      for (int marked : new int[] {0, 1, 60, 119, 120}) {
        for (int more : new int[] {0, 1, 60, 120}) {
          if (marked + more <= 120) {
            Edge.Setting setting = x -> {
              Filled.open(x, roll, marked);
              x.mark(roll);
              for (int i = 0; i < more; i += 20) {
                x.putText(roll, 9, 0, Math.min(20, more - i), 0);
              }
            };
            Manydoors x = edge.done("back of " + more + " behind " + marked, setting, y -> y.back(roll), more);
            check.due("what it keeps", x.text(roll, 0), Filled.text(marked));
            check.due("again", x.back(roll), 0);
          }
        }
      }
    }
    edge.noIndex("back of a sheet", Edge.NEW, x -> x.back(2));
    edge.noIndex("back of a page", Edge.NEW, x -> x.back(6));
  }

  /** 18: "The MARK stays." */
  private static void backKeepsTheMark() {
    Manydoors x = new Manydoors();
    Filled.open(x, 4, 7);
    x.mark(4);
    for (int i = 0; i < 3; i++) {
      x.putText(4, i, 0, 24, 0);
      check.due("back", x.back(4), 24);
      check.due("mark", x.markOf(4), 7);
    }
    check.due("text", x.text(4, 0), Filled.text(7));
  }

  /** Terms 3: "Each ROLL has a MARK, at first 0; mark() and reset() alone change it." */
  private static void markAndResetAloneChangeTheMark() {
    Edge.Call[] acts = {
      x -> x.putLetter(3, 0, 0),
      x -> x.putText(3, 0, 0, 24, 6),
      x -> x.putKept(3, 0, 6),
      x -> x.putRow(3, 0, 0, 2),
      x -> x.pour(3, 3),
      x -> x.pour(3, 4),
      x -> x.back(3),
      x -> x.mark(4),
      x -> x.reset(5),
      x -> x.keep(1, 3),
      x -> x.keepPart(1, 3, 0, 1),
      x -> x.takeRow(1, 3),
      x -> x.undo(0, 1),
      x -> x.turn(0)
    };
    for (int i = 0; i < acts.length; i++) {
      Manydoors x = new Manydoors();
      Filled.open(x, 0, 4);
      Filled.open(x, 3, 4);
      x.keep(0, 3);
      x.takeRow(0, 3);
      x.mark(3);
      x.putLetter(3, 5, 0);
      acts[i].on(x);
      check.due("act " + i + " was done", x.house(1), 0);
      check.due("mark behind act " + i, x.markOf(3), 4);
    }
  }

  private static void everyRollHasItsOwnMark() {
    Edge.Setting marked = x -> {
      for (int roll : Filled.ROLLS) {
        Filled.open(x, roll, roll);
        x.mark(roll);
        x.putText(roll, 0, 0, 20, 0);
      }
    };
    for (int roll : Filled.ROLLS) {
      edge.asked("mark of " + roll, marked, x -> x.markOf(roll), roll);
      Manydoors x = edge.done("reset of " + roll, marked, y -> y.reset(roll), 20 + roll);
      for (int other : Filled.ROLLS) {
        check.due("mark of " + other, x.markOf(other), other == roll ? 0 : other);
        check.due("length of " + other, x.length(other, 0), other == roll ? 0 : 20 + other);
      }
    }
  }

  /** 19: "Returns 1 if another one was there". */
  private static void keepOfAnother() {
    for (int slot : Filled.SLOTS) {
      for (int writer : Filled.OPEN) {
        for (int length : new int[] {1, 119, 120}) {
          Manydoors x = edge.done("for none", filled(writer, length), y -> y.keep(slot, writer), 1);
          check.due("kept", x.keptText(slot), Filled.text(length));
        }
        Manydoors x = edge.done("none for some", y -> Filled.slot(y, slot, 120), y -> y.keep(slot, writer), 1);
        check.due("kept", x.keptText(slot), "");
      }
    }
    Edge.Setting abc = x -> {
      Filled.spelt(x, 0, "abc");
      x.keep(0, 0);
    };
    edge.done("a shorter one", x -> {
      abc.on(x);
      x.cutAt(0, 2);
    }, x -> x.keep(0, 0), 1);
    edge.done("a longer one", x -> {
      abc.on(x);
      x.toLength(0, 4);
    }, x -> x.keep(0, 0), 1);
    edge.done("another last sign", x -> {
      abc.on(x);
      x.change(0, 2, 26);
    }, x -> x.keep(0, 0), 1);
    edge.done("another first sign", x -> {
      abc.on(x);
      x.change(0, 0, 26);
    }, x -> x.keep(0, 0), 1);
    edge.done("a blank for a space", x -> {
      x.putLetter(0, 26, 0);
      x.keep(0, 0);
      x.toLength(1, 1);
    }, x -> x.keep(0, 1), 1);
  }

  /** 19: "0 if the same was": also the same text of another WRITER, also one without a SIGN. */
  private static void keepOfTheSame() {
    for (int slot : Filled.SLOTS) {
      for (int writer : Filled.WRITERS) {
        edge.done("none for none", Edge.NEW, x -> x.keep(slot, writer), 0);
      }
      edge.done("the same of another", x -> {
        Filled.slot(x, slot, 120);
        Filled.open(x, 2, 120);
      }, x -> x.keep(slot, 2), 0);
      edge.done("the same page", x -> {
        Filled.page(x, 0, 240);
        x.keep(slot, 6);
        Filled.page(x, 1, 240);
      }, x -> x.keep(slot, 7), 0);
    }
  }

  private static void keepOfLongPages() {
    for (int press : Filled.PRESSES) {
      for (int length : new int[] {119, 120, 121, 237, 240}) {
        Manydoors x = edge.done("a page", y -> Filled.page(y, press, length), y -> y.keep(1, 6 + press), 1);
        check.due("a page", x.keptText(1), Filled.pageText(length));
      }
    }
  }

  /** 20: "-9 if .. to is above the WRITER's LENGTH." */
  private static void partUpToTheEnd() {
    for (int writer : Filled.OPEN) {
      for (int length : new int[] {1, 7, 119}) {
        Manydoors x = edge.done("all", filled(writer, length), y -> y.keepPart(2, writer, 0, length), length);
        check.due("all", x.keptText(2), Filled.text(length));
        Manydoors z = edge.done("the last", filled(writer, length), y -> y.keepPart(2, writer, length - 1, length), 1);
        check.due("the last", z.keptText(2), Filled.text(length).substring(length - 1));
        edge.refused("one farther", filled(writer, length), y -> y.keepPart(2, writer, 0, length + 1));
        edge.refused("one behind", filled(writer, length), y -> y.keepPart(2, writer, length, length + 1));
        edge.refused("none behind", filled(writer, length), y -> y.keepPart(2, writer, length + 1, length + 1));
        edge.refused("to 120", filled(writer, length), y -> y.keepPart(2, writer, 0, 120));
      }
      edge.done("all 120", filled(writer, 120), y -> y.keepPart(2, writer, 0, 120), 120);
      edge.noArgument("to 121", filled(writer, 120), y -> y.keepPart(2, writer, 0, 121));
    }
    edge.refused("what a slot has stays", x -> {
      Filled.slot(x, 2, 9);
      Filled.open(x, 3, 3);
    }, x -> x.keepPart(2, 3, 0, 4));
  }

  /** 20: "-9 if from is above to". */
  private static void partFromUpToTo() {
    for (int writer : Filled.OPEN) {
      for (int from : new int[] {1, 4, 9}) {
        edge.done("from is to", filled(writer, 9), x -> x.keepPart(0, writer, from, from), 0);
        edge.done("from is below to", filled(writer, 9), x -> x.keepPart(0, writer, from - 1, from), 1);
        edge.refused("from is above to", filled(writer, 9), x -> x.keepPart(0, writer, from, from - 1));
        edge.refused("from 10 is above to", filled(writer, 9), x -> x.keepPart(0, writer, 10, from));
      }
      edge.refused("both", filled(writer, 9), x -> x.keepPart(0, writer, 120, 119));
    }
  }

  /** 20: a part without a SIGN, in place of what the SLOT had. */
  private static void partWithoutASign() {
    for (int writer : Filled.WRITERS) {
      Manydoors x = edge.done("of none", y -> Filled.slot(y, 3, 5), y -> y.keepPart(3, writer, 0, 0), 0);
      check.due("none", x.keptText(3), "");
      edge.refused("one of none", Edge.NEW, y -> y.keepPart(3, writer, 0, 1));
      edge.refused("none behind none", Edge.NEW, y -> y.keepPart(3, writer, 1, 1));
    }
    edge.done("at 120 of 120", filled(1, 120), y -> y.keepPart(3, 1, 120, 120), 0);
    edge.refused("at 120 of 119", filled(1, 119), y -> y.keepPart(3, 1, 120, 120));
  }

  private static void partOfALongPage() {
    for (int press : Filled.PRESSES) {
      Edge.Setting long240 = x -> Filled.page(x, press, 240);
      Manydoors x = edge.done("0 to 120", long240, y -> y.keepPart(0, 6 + press, 0, 120), 120);
      check.due("0 to 120", x.keptText(0), Filled.pageText(120));
      edge.done("119 to 120", long240, y -> y.keepPart(0, 6 + press, 119, 120), 1);
      edge.done("120 to 120", long240, y -> y.keepPart(0, 6 + press, 120, 120), 0);
      edge.noArgument("0 to 121", long240, y -> y.keepPart(0, 6 + press, 0, 121));
      edge.refused("119 signs", y -> Filled.page(y, press, 119), y -> y.keepPart(0, 6 + press, 0, 120));
    }
  }

  /** 21: "in place of its own ones. Returns its LENGTH then." */
  private static void rowInPlaceOfItsOwn() {
    for (int row : Filled.ROWS) {
      for (int writer : new int[] {0, 1, 2, 3, 4}) {
        for (int before : new int[] {0, 60, 120}) {
          for (int length : new int[] {0, 1, 119, 120}) {
            Edge.Setting taken = x -> {
              Filled.row(x, row, before);
              Filled.open(x, writer, length);
            };
            Manydoors x = edge.done("row", taken, y -> y.takeRow(row, writer), length);
            check.due("row", x.rowText(row), Filled.text(length));
            check.due("the other row", x.rowText(1 - row), "");
          }
        }
      }
    }
  }

  private static void rowOfLongPages() {
    for (int press : Filled.PRESSES) {
      for (int length : new int[] {0, 120, 121, 240}) {
        Manydoors x = edge.done("row", y -> Filled.page(y, press, length), y -> y.takeRow(1, 6 + press), length);
        check.due("row", x.rowText(1), Filled.pageText(length));
      }
    }
  }

  /** 22: "Returns 1 if another one was there ..; -9 if there was none." */
  private static void changeAtTheLastPlaceAndBehindIt() {
    for (int row : Filled.ROWS) {
      for (int length : new int[] {1, 2, 7, 119, 120}) {
        String text = Filled.text(length);
        Edge.Setting taken = x -> Filled.row(x, row, length);
        Manydoors x = edge.done("the last", taken, y -> y.changeRow(row, length - 1, 29), 1);
        check.due("the last is another", x.rowText(row), text.substring(0, length - 1) + ",");
        Manydoors z = edge.done("the first", taken, y -> y.changeRow(row, 0, 25), 1);
        check.due("the first is another", z.rowText(row), "z" + text.substring(1));
        edge.refused("behind the last", taken, y -> y.changeRow(row, length, 0));
      }
      edge.refused("of none", Edge.NEW, x -> x.changeRow(row, 0, 0));
      edge.refused("of none, though the other has some", x -> Filled.row(x, 1 - row, 3), x -> x.changeRow(row, 0, 0));
      edge.refused("at 120", x -> Filled.row(x, row, 7), x -> x.changeRow(row, 120, 0));
      edge.refused("behind a shorter one", x -> {
        Filled.row(x, row, 9);
        Filled.row(x, row, 3);
      }, x -> x.changeRow(row, 3, 0));
    }
  }

  /** 22: "0 if the same was": the same SIGN, though it be by another LETTER. */
  private static void changeToTheSame() {
    int[][] same = {{0}, {25}, {26, 27, 28}, {29}, {30, 31}};
    for (int[] letters : same) {
      for (int first : letters) {
        for (int second : letters) {
          Edge.Setting taken = x -> {
            x.putLetter(3, first, 0);
            x.takeRow(0, 3);
          };
          Manydoors x = edge.done(first + " to " + second, taken, y -> y.changeRow(0, 0, second), 0);
          check.due("its sign", x.rowText(0), Filled.LETTERS.substring(first, first + 1));
        }
      }
    }
    edge.done("a blank to a space", x -> {
      x.toLength(0, 1);
      x.takeRow(0, 0);
    }, x -> x.changeRow(0, 0, 26), 1);
  }

  /** 22: the last place that is let is 120, also in a row that is longer. */
  private static void changeOfALongRow() {
    Edge.Setting taken = x -> Filled.rowOfPage(x, 0, 240);
    Manydoors x = edge.done("at 120", taken, y -> y.changeRow(0, 120, 0), 1);
    check.due("at 120", x.rowText(0), Filled.pageText(120) + "a" + Filled.pageText(240).substring(121));
    edge.noIndex("at 121", taken, y -> y.changeRow(0, 121, 0));
    edge.done("the last of 121", y -> Filled.rowOfPage(y, 0, 121), y -> y.changeRow(0, 120, 0), 1);
    edge.refused("behind 120", y -> Filled.rowOfPage(y, 0, 120), y -> y.changeRow(0, 120, 0));
  }
}
