/** Promises 27 to 36 at their edges; each method stands for a sentence of the document. */
public final class AskedEdgesTest {
  private static final Check check = new Check("AskedEdgesTest");
  private static final Edge edge = new Edge(check);

  public static void main(String[] args) {
    textsByEachHow();
    lengthsByEachHow();
    textsOfLongPages();
    signAtTheLastPlaceAndBehindIt();
    signAt120();
    signsOfAllNumbers();
    orderAtTheFirstUnlikePlace();
    orderByTheLesserNumber();
    orderOfTheShorterOne();
    orderOfTheSame();
    orderOfLongTexts();
    findFirstAndLast();
    findAtTheEdgesOfTheText();
    findNone();
    findWithoutASign();
    findLongTexts();
    turnedAtTheEdges();
    joinedAtTheEdges();
    keptTextsAtTheEdges();
    isKeptAtTheEdges();
    rowTextsAtTheEdges();
    check.finish();
  }

  private static Edge.Setting filled(int writer, int length) {
    return x -> Filled.open(x, writer, length);
  }

  private static Edge.Setting spelt(String first, String second) {
    return x -> {
      Filled.spelt(x, 0, first);
      Filled.spelt(x, 4, second);
    };
  }

  private static String reversed(String text) {
    return new StringBuilder(text).reverse().toString();
  }

  /** 27: "how: 0 to 2 .. (all are the same). Returns its text." */
  private static void textsByEachHow() {
    for (int writer : Filled.OPEN) {
      for (int length : new int[] {0, 1, 119, 120}) {
        for (int how = 0; how < 3; how++) {
          int by = how;
          edge.asked("text by " + how, filled(writer, length), x -> x.text(writer, by), Filled.text(length));
        }
      }
      edge.noArgument("text by 3", filled(writer, 1), x -> x.text(writer, 3));
      edge.noArgument("text by -1", filled(writer, 1), x -> x.text(writer, -1));
    }
  }

  /** 28: "how: 0 or 1 .. (both are the same). Returns its LENGTH." */
  private static void lengthsByEachHow() {
    for (int writer : Filled.OPEN) {
      for (int length : new int[] {0, 1, 119, 120}) {
        for (int how = 0; how < 2; how++) {
          int by = how;
          edge.asked("length by " + how, filled(writer, length), x -> x.length(writer, by), length);
        }
      }
      edge.noArgument("length by 2", filled(writer, 1), x -> x.length(writer, 2));
      edge.noArgument("length by -1", filled(writer, 1), x -> x.length(writer, -1));
    }
  }

  private static void textsOfLongPages() {
    for (int press : Filled.PRESSES) {
      for (int length : new int[] {0, 1, 120, 121, 240}) {
        Edge.Setting page = x -> Filled.page(x, press, length);
        for (int how = 0; how < 3; how++) {
          int by = how;
          edge.asked("page by " + how, page, x -> x.text(6 + press, by), Filled.pageText(length));
        }
        edge.asked("its length", page, x -> x.length(6 + press, 0), length);
        edge.asked("its length", page, x -> x.length(6 + press, 1), length);
      }
    }
  }

  /** 29: "Returns the number of the SIGN there; -9 if there is none." */
  private static void signAtTheLastPlaceAndBehindIt() {
    for (int writer : Filled.OPEN) {
      edge.asked("of none", Edge.NEW, x -> x.signAt(writer, 0), -9);
      for (int length : new int[] {1, 2, 7, 119, 120}) {
        String text = Filled.text(length);
        Edge.Setting setting = filled(writer, length);
        edge.asked("the first", setting, x -> x.signAt(writer, 0), (int) text.charAt(0));
        edge.asked("the last", setting, x -> x.signAt(writer, length - 1), (int) text.charAt(length - 1));
        edge.asked("behind the last", setting, x -> x.signAt(writer, length), -9);
      }
    }
    edge.asked("what was cut", x -> {
      Filled.open(x, 0, 9);
      x.cut(0, 4, 9);
    }, x -> x.signAt(0, 4), -9);
    edge.asked("what went back", x -> {
      Filled.open(x, 3, 9);
      x.back(3);
    }, x -> x.signAt(3, 0), -9);
  }

  /** 29: "place is .. 0 to 120", also on a PAGE that is longer. */
  private static void signAt120() {
    edge.asked("119 of 120", filled(2, 120), x -> x.signAt(2, 119), (int) Filled.text(120).charAt(119));
    edge.asked("120 of 120", filled(2, 120), x -> x.signAt(2, 120), -9);
    edge.asked("120 of 7", filled(2, 7), x -> x.signAt(2, 120), -9);
    edge.noIndex("121", filled(2, 120), x -> x.signAt(2, 121));
    edge.noIndex("-1", filled(2, 120), x -> x.signAt(2, -1));
    for (int press : Filled.PRESSES) {
      edge.asked("120 of a page of 120", x -> Filled.page(x, press, 120), x -> x.signAt(6 + press, 120), -9);
      edge.asked("120 of a page of 121", x -> Filled.page(x, press, 121), x -> x.signAt(6 + press, 120), 47);
      edge.asked("120 of a page of 240", x -> Filled.page(x, press, 240), x -> x.signAt(6 + press, 120), 32);
      edge.noIndex("121 of a page of 240", x -> Filled.page(x, press, 240), x -> x.signAt(6 + press, 121));
    }
  }

  /** Terms 1: the numbers of the SIGNS. */
  private static void signsOfAllNumbers() {
    for (int letter = 0; letter < 32; letter++) {
      int put = letter;
      int due = Filled.LETTERS.charAt(letter);
      edge.asked("letter " + letter, x -> x.putLetter(0, put, 0), x -> x.signAt(0, 0), due);
    }
    for (int digit = 0; digit < 10; digit++) {
      int put = digit;
      edge.asked("digit " + digit, x -> x.insertNumber(0, 0, put), x -> x.signAt(0, 0), 48 + digit);
    }
    edge.asked("-", x -> x.insertNumber(0, 0, -1), x -> x.signAt(0, 0), 45);
    edge.asked("a blank", x -> x.toLength(0, 1), x -> x.signAt(0, 0), 0);
  }

  /** 30: of the texts of sheet 0 and roll 4, both ways. */
  private static void orderDue(String what, Edge.Setting setting, int due) {
    edge.asked(what, setting, x -> x.order(0, 4), due);
    edge.asked(what + ", the other way round", setting, x -> x.order(4, 0), -due);
  }

  /** 30: "At the first place where two texts are unlike": whatever comes behind it. */
  private static void orderAtTheFirstUnlikePlace() {
    orderDue("the first place", spelt("az", "ba"), -1);
    orderDue("the last place", spelt("aaaz", "aaaa"), 1);
    orderDue("within", spelt("abaz", "abba"), -1);
    orderDue("though shorter", spelt("b", "ab"), 1);
    orderDue("though longer", spelt("abcdef", "b"), -1);
  }

  /** 30: "the one whose SIGN has the lesser number stands ahead". */
  private static void orderByTheLesserNumber() {
    orderDue("letters", spelt("y", "z"), -1);
    orderDue("space and comma", spelt(" ", ","), -1);
    orderDue("comma and slash", spelt(",", "/"), -1);
    orderDue("slash and a", spelt("/", "a"), -1);
    orderDue("a and z", spelt("a", "z"), -1);
    orderDue("blank and space", x -> {
      x.toLength(0, 1);
      x.putLetter(4, 26, 0);
    }, -1);
    orderDue("- and 0", x -> {
      x.insertNumber(1, 0, 0);
      x.pour(1, 4);
      x.insertNumber(0, 0, -1);
    }, -1);
    orderDue("9 and a", x -> {
      x.insertNumber(0, 0, 9);
      x.putLetter(4, 0, 0);
    }, -1);
    orderDue("slash and 0", x -> {
      x.insertNumber(0, 0, 0);
      x.putLetter(4, 31, 0);
    }, 1);
  }

  /** 30: "if there is none, the shorter one." */
  private static void orderOfTheShorterOne() {
    orderDue("none and one", spelt("", "a"), -1);
    orderDue("one and two", spelt("a", "aa"), -1);
    orderDue("a blank is longer", x -> x.toLength(0, 1), 1);
    orderDue("119 and 120", x -> {
      Filled.open(x, 0, 119);
      Filled.open(x, 4, 120);
    }, -1);
  }

  /** 30: "0 if they are the same." */
  private static void orderOfTheSame() {
    orderDue("none", Edge.NEW, 0);
    orderDue("one", spelt("z", "z"), 0);
    orderDue("120", x -> {
      Filled.open(x, 0, 120);
      x.pour(0, 4);
    }, 0);
    for (int writer : Filled.WRITERS) {
      edge.asked("itself", Filled::rich, x -> x.order(writer, writer), 0);
    }
    orderDue("space by two letters", x -> {
      x.putLetter(0, 26, 0);
      x.putLetter(4, 28, 0);
    }, 0);
  }

  private static void orderOfLongTexts() {
    edge.asked("pages", x -> {
      Filled.page(x, 0, 240);
      Filled.page(x, 1, 235);
    }, x -> x.order(6, 7), 1);
    edge.asked("the same pages", x -> {
      Filled.page(x, 0, 240);
      Filled.page(x, 1, 240);
    }, x -> x.order(6, 7), 0);
    edge.asked("a page and a sheet", x -> {
      Filled.page(x, 0, 121);
      x.toLength(0, 120);
    }, x -> x.order(6, 0), 1);
  }

  /** 31: on sheet 0 what roll 4 has had kept. */
  private static void findDue(String text, String sought, int first, int last) {
    Edge.Setting kept = x -> {
      Filled.spelt(x, 0, text);
      Filled.spelt(x, 4, sought);
      x.keep(2, 4);
    };
    String what = "\"" + sought + "\" in \"" + text + "\"";
    edge.asked("first " + what, kept, x -> x.find(0, 2, false), first);
    edge.asked("last " + what, kept, x -> x.find(0, 2, true), last);
  }

  /** 31: "Returns the first (or last) place at which what the SLOT has begins in its text". */
  private static void findFirstAndLast() {
    findDue("abab", "ab", 0, 2);
    findDue("aaaa", "aa", 0, 2);
    findDue("ababa", "aba", 0, 2);
    findDue("xabx", "ab", 1, 1);
    findDue("aab", "ab", 1, 1);
    findDue("aaab", "aab", 1, 1);
    findDue("a b a", " ", 1, 3);
  }

  /** 31: at the first place and at the last one at which it can begin. */
  private static void findAtTheEdgesOfTheText() {
    findDue("abc", "a", 0, 0);
    findDue("abc", "c", 2, 2);
    findDue("abc", "bc", 1, 1);
    findDue("abc", "abc", 0, 0);
    findDue("a", "a", 0, 0);
  }

  /** 31: "-1 if there is none". */
  private static void findNone() {
    findDue("abc", "d", -1, -1);
    findDue("abc", "cd", -1, -1);
    findDue("abc", "abcd", -1, -1);
    findDue("abc", "ac", -1, -1);
    findDue("", "a", -1, -1);
    findDue("ab", "ba", -1, -1);
  }

  /** 31: "(what has no SIGN begins at each place, and behind the last SIGN)". */
  private static void findWithoutASign() {
    findDue("", "", 0, 0);
    findDue("a", "", 0, 1);
    findDue("abc", "", 0, 3);
    for (int writer : Filled.OPEN) {
      edge.asked("first in 120", filled(writer, 120), x -> x.find(writer, 3, false), 0);
      edge.asked("last in 120", filled(writer, 120), x -> x.find(writer, 3, true), 120);
    }
    edge.asked("last in a page", x -> Filled.page(x, 1, 240), x -> x.find(7, 3, true), 240);
  }

  private static void findLongTexts() {
    Edge.Setting pages = x -> {
      Filled.page(x, 0, 240);
      x.keep(0, 6);
      x.keepPart(1, 6, 0, 5);
    };
    edge.asked("all of a page, first", pages, x -> x.find(6, 0, false), 0);
    edge.asked("all of a page, last", pages, x -> x.find(6, 0, true), 0);
    edge.asked("a part of a page, first", pages, x -> x.find(6, 1, false), 0);
    edge.asked("a part of a page, last", pages, x -> x.find(6, 1, true), 235);
    edge.asked("a page in a sheet", x -> {
      pages.on(x);
      Filled.open(x, 0, 120);
    }, x -> x.find(0, 0, true), -1);
    edge.asked("120 in 120", x -> {
      Filled.open(x, 0, 120);
      x.keep(3, 0);
    }, x -> x.find(0, 3, true), 0);
  }

  /** 32: "Returns its text turned." */
  private static void turnedAtTheEdges() {
    for (int writer : Filled.OPEN) {
      for (int length : new int[] {0, 1, 2, 3, 119, 120}) {
        edge.asked("turned", filled(writer, length), x -> x.turned(writer), reversed(Filled.text(length)));
      }
    }
    for (int press : Filled.PRESSES) {
      for (int length : new int[] {0, 5, 121, 240}) {
        edge.asked("turned page", x -> Filled.page(x, press, length), x -> x.turned(6 + press),
            reversed(Filled.pageText(length)));
      }
    }
  }

  /** 33: "Returns the three texts, one behind the other": of none, and of 360 signs. */
  private static void joinedAtTheEdges() {
    for (boolean isLeft : new boolean[] {false, true}) {
      for (int first : Filled.OPEN) {
        edge.asked("none", Edge.NEW, x -> x.joined(first, first, first, isLeft), "");
        edge.asked("360", filled(first, 120), x -> x.joined(first, first, first, isLeft), Filled.text(120).repeat(3));
        for (int second : Filled.OPEN) {
          for (int third : Filled.OPEN) {
            Manydoors x = new Manydoors();
            for (int writer : Filled.OPEN) {
              Filled.spelt(x, writer, "abcdef".substring(0, writer));
            }
            String due = "abcdef".substring(0, first) + "abcdef".substring(0, second) + "abcdef".substring(0, third);
            check.due("joined", x.joined(first, second, third, isLeft), due);
          }
        }
      }
      edge.noIndex("a page first", Filled::rich, x -> x.joined(6, 0, 0, isLeft));
      edge.noIndex("a page second", Filled::rich, x -> x.joined(0, 7, 0, isLeft));
      edge.noIndex("a page third", Filled::rich, x -> x.joined(0, 0, 6, isLeft));
    }
  }

  /** 34: "Returns what it has." */
  private static void keptTextsAtTheEdges() {
    for (int slot : Filled.SLOTS) {
      for (int length : new int[] {0, 1, 120}) {
        edge.asked("kept", x -> Filled.slot(x, slot, length), x -> x.keptText(slot), Filled.text(length));
      }
      edge.asked("a page", x -> Filled.slotOfPage(x, slot, 240), x -> x.keptText(slot), Filled.pageText(240));
      for (int other : Filled.SLOTS) {
        if (other != slot) {
          edge.asked("another slot", x -> Filled.slot(x, slot, 9), x -> x.keptText(other), "");
        }
      }
    }
  }

  /** 35: "Returns whether what the SLOT has is the text of the WRITER." */
  private static void isKeptAtTheEdges() {
    for (int slot : Filled.SLOTS) {
      for (int writer : new int[] {0, 1, 2, 3, 4}) {
        for (int length : new int[] {0, 1, 119, 120}) {
          Edge.Setting kept = x -> {
            Filled.slot(x, slot, length);
            Filled.open(x, writer, length);
          };
          edge.asked("the same", kept, x -> x.isKept(slot, writer), true);
          if (length > 0) {
            edge.asked("one more is kept", x -> {
              Filled.slot(x, slot, length);
              Filled.open(x, writer, length - 1);
            }, x -> x.isKept(slot, writer), false);
          }
          if (length < 120) {
            edge.asked("one less is kept", x -> {
              Filled.slot(x, slot, length);
              Filled.open(x, writer, length + 1);
            }, x -> x.isKept(slot, writer), false);
          }
        }
      }
      edge.asked("a page", x -> {
        Filled.slotOfPage(x, slot, 240);
        Filled.page(x, 0, 240);
      }, x -> x.isKept(slot, 6), true);
      edge.asked("another page", x -> {
        Filled.slotOfPage(x, slot, 240);
        Filled.page(x, 0, 235);
      }, x -> x.isKept(slot, 6), false);
    }
    edge.asked("the last sign is another", x -> {
      Filled.open(x, 0, 120);
      x.keep(0, 0);
      x.change(0, 119, 29);
    }, x -> x.isKept(0, 0), false);
    edge.asked("the same sign by another letter", x -> {
      x.putLetter(0, 30, 0);
      x.keep(0, 0);
      x.putLetter(3, 31, 0);
    }, x -> x.isKept(0, 3), true);
  }

  /** 36: "Returns its SIGNS as a text." */
  private static void rowTextsAtTheEdges() {
    for (int row : Filled.ROWS) {
      for (int length : new int[] {0, 1, 119, 120}) {
        edge.asked("row", x -> Filled.row(x, row, length), x -> x.rowText(row), Filled.text(length));
        edge.asked("the other row", x -> Filled.row(x, row, length), x -> x.rowText(1 - row), "");
      }
      edge.asked("a page", x -> Filled.rowOfPage(x, row, 240), x -> x.rowText(row), Filled.pageText(240));
    }
  }
}
