/** 'Terms' 1, 2, 4 and 6 at their edges; each method stands for a sentence of the document. */
public final class TermsEdgesTest {
  private static final Check check = new Check("TermsEdgesTest");
  private static final Edge edge = new Edge(check);

  public static void main(String[] args) {
    lettersAndTheirSigns();
    theBlankIsNoSpace();
    textsAndTheirSigns();
    partsOfTexts();
    writersAtFirstWithoutASign();
    openWritersHave120SignsAtMost();
    pagesAreAskedKeptAndPoured();
    onlyItsPressWritesOnAPage();
    doorsComeToTheSameAtTheEdges();
    whatWasTakenOutStays();
    aRowIsChangedAtItsPlacesAlone();
    whatStaysAsItWasIsDone();
    severalStepsAreOneAct();
    notDoneIsCountedOnce();
    countsOfManyActs();
    askingIsNotCounted();
    answersAtThe512thCall();
    check.finish();
  }

  /** 1: "LETTERS are numbered 0 to 31": "a" to "z", 26 to 28 the SPACE, 29 the COMMA, 30 and 31 the SLASH. */
  private static void lettersAndTheirSigns() {
    int[] edges = {0, 25, 26, 28, 29, 30, 31};
    int[] signs = {97, 122, 32, 32, 44, 47, 47};
    for (int i = 0; i < edges.length; i++) {
      int letter = edges[i];
      int sign = signs[i];
      for (int writer : Filled.OPEN) {
        Manydoors x = edge.done("letter " + letter, Edge.NEW, y -> y.putLetter(writer, letter, 0), 1);
        check.due("its sign", x.signAt(writer, 0), sign);
      }
      Manydoors x = edge.done("change to " + letter, y -> y.toLength(2, 1), y -> y.change(2, 0, letter), 1);
      check.due("its sign", x.signAt(2, 0), sign);
    }
    for (int letter = 0; letter < 32; letter++) {
      Manydoors x = new Manydoors();
      x.toLength(0, 1);
      x.takeRow(1, 0);
      x.change(0, 0, letter);
      x.changeRow(1, 0, letter);
      x.putLetter(3, letter, 0);
      String due = Filled.LETTERS.substring(letter, letter + 1);
      check.due("letter " + letter + " changed", x.text(0, 0), due);
      check.due("letter " + letter + " in a row", x.rowText(1), due);
      check.due("letter " + letter + " put", x.text(3, 0), due);
      x.feedLetter(0, letter, 0);
      check.due("letter " + letter + " in a word", x.word(0), letter < 26 ? due : "");
      check.due("letter " + letter + " on a page", x.text(6, 0), letter > 29 ? due : "");
      int gap = letter == 29 ? 2 : letter > 25 && letter < 29 ? 1 : 0;
      check.due("letter " + letter + " and the gap", x.pressNumber(0, 3), gap);
    }
  }

  /** 1: "the BLANK (0), which is no SPACE". */
  private static void theBlankIsNoSpace() {
    Manydoors x = new Manydoors();
    x.toLength(0, 2);
    x.putLetter(1, 26, 0);
    x.keep(0, 1);
    check.due("its number", x.signAt(0, 1), 0);
    check.due("no space is found", x.find(0, 0, false), -1);
    check.due("it stands ahead of the space", x.order(0, 1), -1);
    check.due("space in its place", x.change(0, 1, 28), 1);
    x.undo(0, 1);
    x.keep(1, 0);
    x.feedKept(1, 1, 0);
    check.due("it comes to the word", x.word(1), "\0\0");
    check.due("it makes no gap", x.pressNumber(1, 3), 0);
  }

  /** 1: "Each has 24 SIGNS: at the place i the LETTER .. that remains of seed + 5 * i divided by 32." */
  private static void textsAndTheirSigns() {
    check.due("text 0", Filled.seeded(0), "afkpuz/dinsx bglqv /ejot");
    for (int seed = 0; seed < 32; seed++) {
      Manydoors x = new Manydoors();
      String due = Filled.seeded(seed);
      x.putText(0, seed, 0, 24, 0);
      x.putText(3, seed, 0, 24, 0);
      x.insert(1, 0, seed, 0, 24);
      check.due("text " + seed + " put on a sheet", x.text(0, 0), due);
      check.due("text " + seed + " put on a roll", x.text(3, 0), due);
      check.due("text " + seed + " put in", x.text(1, 0), due);
      x.feed(0, seed, 0, 24, 0);
      Filled.fedWith(x, 1, due);
      check.due("text " + seed + " fed", x.text(6, 0), x.text(7, 0));
      check.due("text " + seed + " fed, the word", x.word(0), x.word(1));
    }
  }

  /** 1: "A part of it: from the place from on many of its SIGNS"; 3, 7, 24: "-9 if from + many is above 24". */
  private static void partsOfTexts() {
    for (int from = 0; from <= 24; from++) {
      for (int many = 0; many <= 24; many++) {
        Manydoors x = new Manydoors();
        boolean isPart = from + many <= 24;
        String due = isPart ? Filled.seeded(7).substring(from, from + many) : "";
        String what = "from " + from + " " + many;
        check.due("putText " + what, x.putText(0, 7, from, many, 0), isPart ? many : -9);
        check.due("its text " + what, x.text(0, 0), due);
        check.due("insert " + what, x.insert(1, 0, 7, from, many), isPart ? many : -9);
        check.due("its text " + what, x.text(1, 0), due);
        int page = x.feed(0, 7, from, many, 0);
        Filled.fedWith(x, 1, due);
        check.due("feed " + what, page, isPart ? x.length(7, 0) : -9);
        check.due("its page " + what, x.text(6, 0) + "|" + x.word(0), x.text(7, 0) + "|" + x.word(1));
        check.due("its fed " + what, x.pressNumber(0, 5), isPart ? many : 0);
        check.due("done " + what, x.house(0), (isPart ? 3 : 0) + due.length());
        check.due("not done " + what, x.house(1), isPart ? 0 : 3);
      }
    }
  }

  /** 2: "There are eight WRITERS, each with a text, at first without a SIGN." */
  private static void writersAtFirstWithoutASign() {
    for (int writer : Filled.WRITERS) {
      edge.asked("text of " + writer, Edge.NEW, x -> x.text(writer, 0), "");
      edge.asked("length of " + writer, Edge.NEW, x -> x.length(writer, 0), 0);
      edge.asked("sign of " + writer, Edge.NEW, x -> x.signAt(writer, 0), -9);
    }
    edge.noIndex("there is no ninth", Edge.NEW, x -> x.text(8, 0));
  }

  /** 2: "these are OPEN, with a LENGTH of at most 120." By each act that makes one longer. */
  private static void openWritersHave120SignsAtMost() {
    for (int writer : Filled.OPEN) {
      Edge.Setting at119 = x -> {
        Filled.slot(x, 0, 1);
        Filled.slot(x, 1, 2);
        Filled.row(x, 0, 2);
        Filled.fedWith(x, 0, "//");
        Filled.fedWith(x, 1, "/");
        Filled.open(x, writer, 119);
      };
      Edge.Call[] one = {
        x -> x.putLetter(writer, 0, 0),
        x -> x.putText(writer, 0, 0, 1, 0),
        x -> x.putKept(writer, 0, 0),
        x -> x.putRow(writer, 0, 0, 1),
        x -> x.pour(7, writer)
      };
      Edge.Call[] two = {
        x -> x.putText(writer, 0, 0, 2, 0),
        x -> x.putKept(writer, 1, 0),
        x -> x.putRow(writer, 0, 0, 2),
        x -> x.pour(6, writer),
        x -> x.pour(writer, writer)
      };
      for (int i = 0; i < one.length; i++) {
        Manydoors x = edge.done("one at 119, " + i, at119, one[i], 120);
        check.due("the length, " + i, x.length(writer, 0), 120);
        check.due("all but the last, " + i, x.text(writer, 0).substring(0, 119), Filled.text(119));
        Edge.Call again = one[i];
        edge.refused("one at 120, " + i, y -> {
          at119.on(y);
          y.putLetter(writer, 1, 0);
        }, again);
        edge.refused("two at 119, " + i, at119, two[i]);
      }
    }
  }

  /** 2: "6 and 7 are the PAGES of the PRESSES 0 and 1; they can be asked, kept and poured out of". */
  private static void pagesAreAskedKeptAndPoured() {
    Edge.Setting pages = x -> {
      Filled.page(x, 0, 7);
      Filled.fedWith(x, 1, "b/");
    };
    String[] due = {"   a///", "b/"};
    for (int press : Filled.PRESSES) {
      edge.asked("text", pages, x -> x.text(6 + press, 0), due[press]);
      edge.asked("order", pages, x -> x.order(6 + press, 7 - press), press == 0 ? -1 : 1);
      Manydoors x = edge.done("kept", pages, y -> y.keep(3, 6 + press), 1);
      check.due("kept", x.keptText(3), due[press]);
      check.due("poured", x.pour(6 + press, 4), due[press].length());
      check.due("poured", x.text(4, 0), due[press]);
      check.due("taken as a row", x.takeRow(0, 6 + press), due[press].length());
      check.due("the page stays", x.text(6 + press, 0), due[press]);
    }
  }

  /** 2: "but only their PRESS writes there." */
  private static void onlyItsPressWritesOnAPage() {
    for (int page = 6; page < 9; page++) {
      int writer = page;
      edge.noIndex("putLetter", Filled::rich, x -> x.putLetter(writer, 0, 0));
      edge.noIndex("putText", Filled::rich, x -> x.putText(writer, 0, 0, 1, 0));
      edge.noIndex("putKept", Filled::rich, x -> x.putKept(writer, 0, 0));
      edge.noIndex("putRow", Filled::rich, x -> x.putRow(writer, 0, 0, 1));
      edge.noIndex("pour", Filled::rich, x -> x.pour(0, writer));
      edge.noIndex("cutAt", Filled::rich, x -> x.cutAt(writer, 0));
      edge.noIndex("reset", Filled::rich, x -> x.reset(writer));
    }
    for (int press : Filled.PRESSES) {
      Manydoors x = edge.done("fed", Edge.NEW, y -> y.feedLetter(press, 30, 0), 1);
      check.due("its page", x.text(6 + press, 0), "/");
      check.due("the other page", x.text(7 - press, 0), "");
      x.begin(1 - press, 4, 0);
      check.due("its page still", x.text(6 + press, 0), "/");
    }
  }

  /** 2: "through one of seven DOORS; all come to the same"; 5: "(Through the DOOR of that call.)" */
  private static void doorsComeToTheSameAtTheEdges() {
    Edge.Setting slots = x -> {
      Filled.slot(x, 0, 24);
      Filled.slot(x, 1, 0);
    };
    for (int door : Filled.DOORS) {
      for (int writer : Filled.OPEN) {
        Edge.Setting at96 = x -> {
          slots.on(x);
          Filled.open(x, writer, 96);
        };
        Edge.Setting at97 = x -> {
          slots.on(x);
          Filled.open(x, writer, 97);
        };
        Manydoors x = edge.done("24 at 96", at96, y -> y.putText(writer, 9, 0, 24, door), 120);
        check.due("its end", x.text(writer, 0).substring(96), Filled.seeded(9));
        edge.done("a slot at 96", at96, y -> y.putKept(writer, 0, door), 120);
        edge.done("nothing at 97", at97, y -> y.putText(writer, 9, 24, 0, door), 97);
        edge.done("a slot without a sign at 97", at97, y -> y.putKept(writer, 1, door), 97);
        edge.refused("24 at 97", at97, y -> y.putText(writer, 9, 0, 24, door));
        edge.refused("a slot at 97", at97, y -> y.putKept(writer, 0, door));
        edge.refused("beyond the text", at97, y -> y.putText(writer, 9, 24, 1, door));
      }
      doorsOfPresses(door, slots);
    }
  }

  private static void doorsOfPresses(int door, Edge.Setting slots) {
    for (int press : Filled.PRESSES) {
      Edge.Setting at72 = x -> {
        slots.on(x);
        Filled.fed(x, press, 72);
      };
      Edge.Setting at73 = x -> {
        slots.on(x);
        Filled.fed(x, press, 73);
      };
      Manydoors whole = new Manydoors();
      Filled.fed(whole, press, 96);
      String page = whole.text(6 + press, 0);
      Manydoors x = edge.done("24 at 72", at72, y -> y.feed(press, 3, 0, 24, door), page.length());
      check.due("its page", x.text(6 + press, 0), page);
      check.due("its word", x.word(press), whole.word(press));
      edge.refused("24 at 73", at73, y -> y.feed(press, 3, 0, 24, door));
      edge.refused("a slot at 73", at73, y -> y.feedKept(press, 0, door));
      edge.refused("a letter at 96", y -> Filled.fed(y, press, 96), y -> y.feedLetter(press, 0, door));
    }
  }

  /** 4: "Each is what was taken out last, whatever comes later". */
  private static void whatWasTakenOutStays() {
    for (int writer : Filled.WRITERS) {
      Manydoors x = new Manydoors();
      Filled.rich(x);
      String due = x.text(writer, 0);
      x.keep(2, writer);
      x.keepPart(3, writer, 0, Math.min(3, due.length()));
      x.takeRow(0, writer);
      x.takeRow(1, writer);
      changeEverything(x);
      check.due("slot of " + writer, x.keptText(2), due);
      check.due("part of " + writer, x.keptText(3), due.substring(0, Math.min(3, due.length())));
      check.due("row of " + writer, x.rowText(0), due);
      check.due("the other row of " + writer, x.rowText(1), due);
      x.keep(2, 5);
      x.takeRow(0, 5);
      check.due("the newest in the slot", x.keptText(2), "b");
      check.due("the newest in the row", x.rowText(0), "b");
      check.due("the other slots", x.keptText(3), due.substring(0, Math.min(3, due.length())));
      check.due("the other row", x.rowText(1), due);
    }
  }

  private static void changeEverything(Manydoors x) {
    for (int sheet : Filled.SHEETS) {
      x.cut(sheet, 0, 2);
      x.insertNumber(sheet, 0, 5);
      x.change(sheet, 0, 3);
      x.turn(sheet);
      x.toLength(sheet, 10);
      x.undo(sheet, 12);
      x.putLetter(sheet, 1, 0);
    }
    for (int roll : Filled.ROLLS) {
      x.reset(roll);
      x.putLetter(roll, 1, 0);
    }
    for (int press : Filled.PRESSES) {
      x.feedLetter(press, 30, 0);
      x.begin(press, 5, 1);
      x.feedLetter(press, 30, 0);
    }
  }

  /** 4: "a ROW can be changed at its places." */
  private static void aRowIsChangedAtItsPlacesAlone() {
    Edge.Setting taken = x -> {
      Filled.open(x, 0, 3);
      x.keep(0, 0);
      x.takeRow(0, 0);
      x.takeRow(1, 0);
    };
    for (int row : Filled.ROWS) {
      Manydoors x = edge.done("changed", taken, y -> y.changeRow(row, 1, 25), 1);
      check.due("that row", x.rowText(row), "azk");
      check.due("the other row", x.rowText(1 - row), "afk");
      check.due("the slot", x.keptText(0), "afk");
      check.due("the writer", x.text(0, 0), "afk");
      check.due("its steps", x.steps(0, false), 1);
    }
  }

  /** 6: "Each other call of them is one ACT that was done (house() by 0), also if all stays as it was". */
  private static void whatStaysAsItWasIsDone() {
    Edge.Setting taken = x -> {
      Filled.open(x, 0, 1);
      Filled.open(x, 3, 1);
      x.mark(3);
      x.keep(0, 0);
      x.takeRow(0, 0);
    };
    for (int writer : Filled.OPEN) {
      int length = writer % 3 == 0 ? 1 : 0;
      edge.done("putText", taken, x -> x.putText(writer, 0, 0, 0, 0), length);
      edge.done("putKept", taken, x -> x.putKept(writer, 1, 0), length);
      edge.done("putRow", taken, x -> x.putRow(writer, 0, 1, 0), length);
      edge.done("pour", taken, x -> x.pour(7, writer), length);
    }
    edge.done("insert", taken, x -> x.insert(0, 1, 0, 0, 0), 1);
    edge.done("cut", taken, x -> x.cut(0, 1, 1), 0);
    edge.done("change", taken, x -> x.change(0, 0, 0), 0);
    edge.done("turn", taken, x -> x.turn(0), 0);
    edge.done("toLength", taken, x -> x.toLength(0, 1), 1);
    edge.done("reset", taken, x -> x.reset(4), 0);
    edge.done("mark", taken, x -> x.mark(3), 1);
    edge.done("back", taken, x -> x.back(3), 0);
    edge.done("keep", taken, x -> x.keep(0, 0), 0);
    edge.done("keepPart", taken, x -> x.keepPart(0, 0, 0, 1), 1);
    edge.done("takeRow", taken, x -> x.takeRow(0, 0), 1);
    edge.done("changeRow", taken, x -> x.changeRow(0, 0, 0), 0);
    edge.done("begin", taken, x -> x.begin(0, 12, 0), 0);
    edge.done("feed", taken, x -> x.feed(0, 0, 0, 0, 0), 0);
    edge.done("feedKept", taken, x -> x.feedKept(0, 1, 0), 0);
  }

  /** 6: "undo() or redo() of several STEPS is one." */
  private static void severalStepsAreOneAct() {
    Edge.Setting steps = x -> {
      for (int i = 0; i < 12; i++) {
        x.putLetter(1, i, 0);
      }
    };
    edge.done("undo 12", steps, x -> x.undo(1, 12), 12);
    edge.done("redo 12", x -> {
      steps.on(x);
      x.undo(1, 12);
    }, x -> x.redo(1, 12), 12);
  }

  /** 6: "-9 ...; nothing is changed then, but that it is counted", once, though it be for several reasons. */
  private static void notDoneIsCountedOnce() {
    Edge.Setting full = x -> {
      for (int writer : Filled.OPEN) {
        Filled.open(x, writer, 120);
      }
      Filled.fed(x, 0, 96);
      x.keep(0, 0);
    };
    for (int writer : Filled.OPEN) {
      edge.refused("putText", full, x -> x.putText(writer, 0, 24, 24, 0));
      edge.refused("putRow", full, x -> x.putRow(writer, 0, 1, 24));
    }
    edge.refused("insert", Filled::rich, x -> x.insert(0, 120, 0, 24, 24));
    edge.refused("insert at 120", full, x -> x.insert(0, 120, 0, 24, 24));
    edge.refused("insertNumber", y -> Filled.open(y, 2, 119), x -> x.insertNumber(2, 120, 12));
    edge.refused("cut", Edge.NEW, x -> x.cut(0, 2, 1));
    edge.refused("keepPart", Edge.NEW, x -> x.keepPart(0, 0, 2, 1));
    edge.refused("feed", full, x -> x.feed(0, 0, 24, 24, 0));
  }

  private static void countsOfManyActs() {
    Manydoors x = new Manydoors();
    for (int i = 0; i < 150; i++) {
      x.putLetter(4, 0, 0);
    }
    check.due("done", x.house(0), 120);
    check.due("not done", x.house(1), 30);
  }

  /** 6: "All other methods but knock() change nothing; a -9 of theirs is not counted." */
  private static void askingIsNotCounted() {
    edge.asked("signAt", Filled::rich, x -> x.signAt(0, 120), -9);
    edge.asked("signAt of no sign", Edge.NEW, x -> x.signAt(7, 0), -9);
    edge.asked("find", Filled::rich, x -> x.find(5, 0, true), -1);
    edge.asked("wouldSet", Filled::rich, x -> x.wouldSet(0, 4, 3), "   ab/   c/   d");
    edge.asked("turned", Filled::rich, x -> x.turned(0), "d/c ,ba");
    edge.asked("joined", Filled::rich, x -> x.joined(0, 2, 0, true), "ab, c/dab, c/d");
    edge.asked("isSound", Filled::rich, x -> x.isSound(), true);
    edge.asked("digest", Filled::rich, x -> x.digest() == x.digest(), true);
    Manydoors x = new Manydoors();
    Filled.rich(x);
    int before = x.house(0) * 1000 + x.house(1);
    check.due("knock", x.knock(), 2);
    check.due("a knock is no act", x.house(0) * 1000 + x.house(1), before);
  }

  /** "An object is used for at most 512 calls": the 512th is answered as any other. */
  private static void answersAtThe512thCall() {
    Manydoors x = new Manydoors();
    for (int i = 0; i < 510; i++) {
      x.toLength(2, i % 2 == 0 ? 120 : 0);
    }
    check.due("the 511th", x.undo(2, 12), 12);
    check.due("the 512th", x.house(0), 511);
  }
}
