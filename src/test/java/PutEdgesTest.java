/** Promises 1 to 6 at their edges; each method stands for a sentence of the document. */
public final class PutEdgesTest {
  private static final Check check = new Check("PutEdgesTest");
  private static final Edge edge = new Edge(check);

  public static void main(String[] args) {
    nothingHasASign();
    objectsStandAlone();
    highestAndLeastHigh();
    letterAt119And120();
    partEndsAt24And25();
    partUpTo120();
    slotUpTo120();
    slotWithoutASign();
    slotsOfLongPages();
    partOfARowUpToItsEnd();
    partOfARowWithoutASign();
    partOfALongRow();
    rowUpTo120();
    sameWriterTwice();
    pouredUpTo120();
    pouredWithoutASign();
    pouredPages();
    check.finish();
  }

  /** 1: "Creates all of it without a SIGN." */
  private static void nothingHasASign() {
    for (int writer : Filled.WRITERS) {
      for (int how = 0; how < 3; how++) {
        check.due("text", new Manydoors().text(writer, how), "");
      }
      check.due("length", new Manydoors().length(writer, 0) + new Manydoors().length(writer, 1), 0);
      check.due("turned", new Manydoors().turned(writer), "");
      for (int other : Filled.WRITERS) {
        check.due("order", new Manydoors().order(writer, other), 0);
      }
      for (int slot : Filled.SLOTS) {
        check.due("first place", new Manydoors().find(writer, slot, false), 0);
        check.due("last place", new Manydoors().find(writer, slot, true), 0);
        check.due("isKept", new Manydoors().isKept(slot, writer), true);
      }
    }
    for (int slot : Filled.SLOTS) {
      check.due("keptText", new Manydoors().keptText(slot), "");
      check.due("wouldSet", new Manydoors().wouldSet(slot, 4, 3), "");
    }
    for (int row : Filled.ROWS) {
      check.due("rowText", new Manydoors().rowText(row), "");
      edge.refused("a place of a new row", Edge.NEW, x -> x.changeRow(row, 0, 0));
    }
    for (int three = 0; three < 3; three++) {
      check.due("house", new Manydoors().house(three), 0);
      check.due("markOf", new Manydoors().markOf(3 + three), 0);
    }
    int[] first = {12, 0, 0, 0, 0, 0, 1};
    for (int press : Filled.PRESSES) {
      for (int what = 0; what < first.length; what++) {
        check.due("pressNumber " + what, new Manydoors().pressNumber(press, what), first[what]);
      }
      check.due("word", new Manydoors().word(press), "");
      check.due("line 0", new Manydoors().line(press, 0), "");
      check.due("line 1", new Manydoors().line(press, 1), "");
    }
    check.due("isSound", new Manydoors().isSound(), true);
  }

  private static void objectsStandAlone() {
    Manydoors first = new Manydoors();
    Filled.rich(first);
    check.due("a second object is new", Whole.told(new Manydoors()), Whole.told(new Manydoors()));
    Manydoors second = new Manydoors();
    long before = second.digest();
    Filled.rich(first);
    check.due("a second object stays", second.digest(), before);
    check.due("the digest of a new one", new Manydoors().digest(), before);
  }

  /** 2: "it does not matter: .. of which only the last 16 binary digits count"; -3 to 3. */
  private static void highestAndLeastHigh() {
    for (int letter = 0; letter < 32; letter++) {
      for (int high = -3; high <= 3; high++) {
        int put = letter;
        int by = high;
        for (int writer : Filled.OPEN) {
          Manydoors x = edge.done("high " + high, Edge.NEW, y -> y.putLetter(writer, put, by), 1);
          check.due("its sign", x.text(writer, 0), Filled.LETTERS.substring(letter, letter + 1));
        }
      }
    }
    edge.noArgument("high 4", Edge.NEW, x -> x.putLetter(0, 0, 4));
    edge.noArgument("high -4", Edge.NEW, x -> x.putLetter(3, 31, -4));
    edge.noArgument("letter -1 with high 1", Edge.NEW, x -> x.putLetter(0, -1, 1));
    edge.noArgument("letter 65536", Edge.NEW, x -> x.putLetter(0, 65536, -1));
  }

  /** 2: "Returns its LENGTH then; -9 if it is 120." */
  private static void letterAt119And120() {
    for (int writer : Filled.OPEN) {
      edge.done("at 0", Edge.NEW, x -> x.putLetter(writer, 0, 0), 1);
      Manydoors x = edge.done("at 119", y -> Filled.open(y, writer, 119), y -> y.putLetter(writer, 25, 1), 120);
      check.due("the text", x.text(writer, 0), Filled.text(119) + "z");
      edge.refused("at 120", y -> Filled.open(y, writer, 120), y -> y.putLetter(writer, 25, 1));
    }
  }

  /** 3: "-9 if from + many is above 24". */
  private static void partEndsAt24And25() {
    for (int writer : Filled.OPEN) {
      edge.done("0 24", Edge.NEW, x -> x.putText(writer, 31, 0, 24, 0), 24);
      edge.done("24 0", Edge.NEW, x -> x.putText(writer, 31, 24, 0, 0), 0);
      Manydoors x = edge.done("23 1", Edge.NEW, y -> y.putText(writer, 31, 23, 1, 0), 1);
      check.due("the last sign", x.text(writer, 0), "s");
      edge.refused("1 24", Edge.NEW, y -> y.putText(writer, 31, 1, 24, 0));
      edge.refused("24 1", Edge.NEW, y -> y.putText(writer, 31, 24, 1, 0));
      edge.refused("12 13", Edge.NEW, y -> y.putText(writer, 31, 12, 13, 0));
      edge.refused("24 24", Edge.NEW, y -> y.putText(writer, 31, 24, 24, 0));
    }
  }

  /** 3: "or its LENGTH would be above 120." */
  private static void partUpTo120() {
    for (int writer : Filled.OPEN) {
      for (int many : new int[] {0, 1, 2, 23, 24}) {
        Manydoors x = edge.done("up to 120", y -> Filled.open(y, writer, 120 - many),
            y -> y.putText(writer, 11, 0, many, 0), 120);
        check.due("the text", x.text(writer, 0), Filled.text(120 - many) + Filled.seeded(11).substring(0, many));
        if (many > 0) {
          edge.refused("up to 121", y -> Filled.open(y, writer, 121 - many),
              y -> y.putText(writer, 11, 0, many, 0));
        }
      }
      edge.done("at the end of a text, at 120", y -> Filled.open(y, writer, 120),
          y -> y.putText(writer, 0, 24, 0, 3), 120);
    }
  }

  /** 4: "Returns its LENGTH then; -9 if its LENGTH would be above 120." */
  private static void slotUpTo120() {
    for (int writer : Filled.OPEN) {
      for (int kept : new int[] {1, 60, 119, 120}) {
        Edge.Setting fits = x -> {
          Filled.slot(x, 3, kept);
          Filled.open(x, writer, 120 - kept);
        };
        Manydoors x = edge.done("up to 120", fits, y -> y.putKept(writer, 3, 0), 120);
        check.due("the text", x.text(writer, 0), Filled.text(120 - kept) + Filled.text(kept));
        edge.refused("up to 121", y -> {
          Filled.slot(y, 3, kept);
          Filled.open(y, writer, 121 - kept);
        }, y -> y.putKept(writer, 3, 0));
      }
    }
  }

  private static void slotWithoutASign() {
    for (int writer : Filled.OPEN) {
      for (int slot : Filled.SLOTS) {
        edge.done("on nothing", Edge.NEW, x -> x.putKept(writer, slot, 4), 0);
        edge.done("at 120", x -> Filled.open(x, writer, 120), x -> x.putKept(writer, slot, 4), 120);
      }
    }
  }

  /** A slot that has a page can be longer than any open writer. */
  private static void slotsOfLongPages() {
    for (int writer : Filled.OPEN) {
      Manydoors x = edge.done("120 on nothing", y -> Filled.slotOfPage(y, 0, 120), y -> y.putKept(writer, 0, 1), 120);
      check.due("the text", x.text(writer, 0), Filled.pageText(120));
      edge.refused("121 on nothing", y -> Filled.slotOfPage(y, 0, 121), y -> y.putKept(writer, 0, 1));
      edge.refused("240 on nothing", y -> Filled.slotOfPage(y, 0, 240), y -> y.putKept(writer, 0, 1));
    }
  }

  /** 5: "-9 if from + many is above the ROW's LENGTH". */
  private static void partOfARowUpToItsEnd() {
    for (int writer : Filled.OPEN) {
      for (int row : Filled.ROWS) {
        for (int length : new int[] {24, 30, 119, 120}) {
          Edge.Setting taken = x -> Filled.row(x, row, length);
          String what = "row of " + length;
          Manydoors x = edge.done(what, taken, y -> y.putRow(writer, row, length - 24, 24), 24);
          check.due(what, x.text(writer, 0), Filled.text(length).substring(length - 24));
          edge.done(what + ", the last", taken, y -> y.putRow(writer, row, length - 1, 1), 1);
          edge.refused(what + ", one too far", taken, y -> y.putRow(writer, row, length - 23, 24));
          edge.refused(what + ", one behind", taken, y -> y.putRow(writer, row, length, 1));
        }
      }
    }
  }

  /** 5: a part without a sign is let up to the row's end, and no farther. */
  private static void partOfARowWithoutASign() {
    for (int writer : Filled.OPEN) {
      edge.done("of a row without a sign", Edge.NEW, x -> x.putRow(writer, 0, 0, 0), 0);
      edge.refused("behind a row without a sign", Edge.NEW, x -> x.putRow(writer, 0, 1, 0));
      edge.refused("one of a row without a sign", Edge.NEW, x -> x.putRow(writer, 1, 0, 1));
      edge.done("at the end of a row", x -> Filled.row(x, 0, 7), x -> x.putRow(writer, 0, 7, 0), 0);
      edge.refused("behind the end of a row", x -> Filled.row(x, 0, 7), x -> x.putRow(writer, 0, 8, 0));
      edge.done("at 120 of 120", x -> Filled.row(x, 1, 120), x -> x.putRow(writer, 1, 120, 0), 0);
      edge.refused("at 120 of 119", x -> Filled.row(x, 1, 119), x -> x.putRow(writer, 1, 120, 0));
    }
  }

  /** 5: a row that has a page can be longer than 120; from is 120 at most there too. */
  private static void partOfALongRow() {
    Edge.Setting taken = x -> Filled.rowOfPage(x, 1, 240);
    for (int writer : Filled.OPEN) {
      Manydoors x = edge.done("24 from 120", taken, y -> y.putRow(writer, 1, 120, 24), 24);
      check.due("its text", x.text(writer, 0), Filled.pageText(240).substring(120, 144));
      edge.done("144 signs", y -> Filled.rowOfPage(y, 1, 144), y -> y.putRow(writer, 1, 120, 24), 24);
      edge.refused("143 signs", y -> Filled.rowOfPage(y, 1, 143), y -> y.putRow(writer, 1, 120, 24));
      edge.noArgument("from 121", taken, y -> y.putRow(writer, 1, 121, 1));
      edge.noArgument("25 signs", taken, y -> y.putRow(writer, 1, 0, 25));
    }
  }

  /** 5: "or the WRITER's LENGTH would be above 120." */
  private static void rowUpTo120() {
    for (int writer : Filled.OPEN) {
      for (int many : new int[] {0, 1, 24}) {
        Manydoors x = edge.done("up to 120", y -> {
          Filled.row(y, 0, 30);
          Filled.open(y, writer, 120 - many);
        }, y -> y.putRow(writer, 0, 6, many), 120);
        String due = Filled.text(120 - many) + Filled.text(30).substring(6, 6 + many);
        check.due("the text", x.text(writer, 0), due);
        if (many > 0) {
          edge.refused("up to 121", y -> {
            Filled.row(y, 0, 30);
            Filled.open(y, writer, 121 - many);
          }, y -> y.putRow(writer, 0, 6, many));
        }
      }
    }
  }

  /** 6: "if they are the same, it stands there twice then". */
  private static void sameWriterTwice() {
    for (int writer : Filled.OPEN) {
      Manydoors x = edge.done("60 on itself", y -> Filled.open(y, writer, 60), y -> y.pour(writer, writer), 120);
      check.due("twice", x.text(writer, 0), Filled.text(60) + Filled.text(60));
      edge.refused("61 on itself", y -> Filled.open(y, writer, 61), y -> y.pour(writer, writer));
      edge.refused("120 on itself", y -> Filled.open(y, writer, 120), y -> y.pour(writer, writer));
      edge.done("nothing on itself", Edge.NEW, y -> y.pour(writer, writer), 0);
    }
  }

  /** 6: "Returns writer's LENGTH then; -9 if that would be above 120." */
  private static void pouredUpTo120() {
    for (int writer : Filled.OPEN) {
      for (int source : Filled.OPEN) {
        if (source != writer) {
          for (int length : new int[] {1, 50, 120}) {
            Manydoors x = edge.done("up to 120", y -> {
              Filled.open(y, source, length);
              Filled.open(y, writer, 120 - length);
            }, y -> y.pour(source, writer), 120);
            check.due("the text", x.text(writer, 0), Filled.text(120 - length) + Filled.text(length));
            check.due("the source stays", x.text(source, 0), Filled.text(length));
            edge.refused("up to 121", y -> {
              Filled.open(y, source, length);
              Filled.open(y, writer, 121 - length);
            }, y -> y.pour(source, writer));
          }
        }
      }
    }
  }

  private static void pouredWithoutASign() {
    for (int source : Filled.WRITERS) {
      for (int writer : Filled.OPEN) {
        if (source != writer) {
          edge.done("nothing on nothing", Edge.NEW, x -> x.pour(source, writer), 0);
          edge.done("nothing at 120", x -> Filled.open(x, writer, 120), x -> x.pour(source, writer), 120);
        }
      }
    }
  }

  private static void pouredPages() {
    for (int press : Filled.PRESSES) {
      for (int writer : Filled.OPEN) {
        Manydoors x = edge.done("120", y -> Filled.page(y, press, 120), y -> y.pour(6 + press, writer), 120);
        check.due("the page", x.text(writer, 0), Filled.pageText(120));
        edge.refused("121", y -> Filled.page(y, press, 121), y -> y.pour(6 + press, writer));
        edge.refused("240", y -> Filled.page(y, press, 240), y -> y.pour(6 + press, writer));
        edge.refused("119 at 2", y -> {
          Filled.page(y, press, 119);
          Filled.open(y, writer, 2);
        }, y -> y.pour(6 + press, writer));
      }
    }
  }
}
