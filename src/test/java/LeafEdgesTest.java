/** Promises 7 to 13 at their edges (14 and 15: StepsEdgesTest); each method stands for a sentence of the document. */
public final class LeafEdgesTest {
  private static final Check check = new Check("LeafEdgesTest");
  private static final Edge edge = new Edge(check);

  public static void main(String[] args) {
    insertAtTheEndAndBehindIt();
    insertPartEndsAt24And25();
    insertUpTo120();
    numbersAtTheirBounds();
    numberAtTheEndAndBehindIt();
    numberUpTo120();
    cutFromTheEndAndBehindIt();
    cutFromUpToTo();
    cutBeyondTheEnd();
    cutAll();
    cutAtTheLastPlaceAndBehindIt();
    cutAtOfABlank();
    changeAtTheLastPlaceAndBehindIt();
    changeToTheSame();
    changeOfABlank();
    turnOfFewSigns();
    turnToTheSame();
    turnOfTheLongest();
    toLengthOfAll();
    toTheSameLength();
    blanksNotWhatHadGone();
    check.finish();
  }

  private static Edge.Setting filled(int sheet, int length) {
    return x -> Filled.open(x, sheet, length);
  }

  private static String inserted(int length, int place, String part) {
    return Filled.text(length).substring(0, place) + part + Filled.text(length).substring(place);
  }

  /** 7: "ahead of the SIGN at a place, or at the end"; "-9 if place is above its LENGTH". */
  private static void insertAtTheEndAndBehindIt() {
    for (int sheet : Filled.SHEETS) {
      for (int length : new int[] {0, 1, 9, 96}) {
        for (int place : new int[] {0, length / 2, Math.max(0, length - 1), length}) {
          String what = "insert at " + place + " of " + length;
          Manydoors x = edge.done(what, filled(sheet, length), y -> y.insert(sheet, place, 3, 1, 4), length + 4);
          check.due(what, x.text(sheet, 0), inserted(length, place, "insx"));
        }
        edge.refused("behind the end", filled(sheet, length), x -> x.insert(sheet, length + 1, 3, 1, 4));
        edge.refused("nothing, behind the end", filled(sheet, length), x -> x.insert(sheet, length + 1, 3, 1, 0));
        edge.refused("at 120", filled(sheet, length), x -> x.insert(sheet, 120, 3, 1, 4));
      }
      edge.done("nothing at 120 of 120", filled(sheet, 120), x -> x.insert(sheet, 120, 3, 1, 0), 120);
      edge.refused("nothing at 120 of 119", filled(sheet, 119), x -> x.insert(sheet, 120, 3, 1, 0));
      edge.noIndex("at 121", filled(sheet, 120), x -> x.insert(sheet, 121, 3, 1, 0));
    }
  }

  /** 7: "or from + many is above 24". */
  private static void insertPartEndsAt24And25() {
    for (int sheet : Filled.SHEETS) {
      edge.done("0 24", filled(sheet, 2), x -> x.insert(sheet, 1, 31, 0, 24), 26);
      edge.done("24 0", filled(sheet, 2), x -> x.insert(sheet, 1, 31, 24, 0), 2);
      Manydoors x = edge.done("23 1", filled(sheet, 2), y -> y.insert(sheet, 1, 31, 23, 1), 3);
      check.due("the last sign", x.text(sheet, 0), "asf");
      edge.refused("1 24", filled(sheet, 2), y -> y.insert(sheet, 1, 31, 1, 24));
      edge.refused("24 1", filled(sheet, 2), y -> y.insert(sheet, 1, 31, 24, 1));
      edge.refused("24 24", filled(sheet, 2), y -> y.insert(sheet, 1, 31, 24, 24));
    }
  }

  /** 7: "or its LENGTH would be above 120." */
  private static void insertUpTo120() {
    for (int sheet : Filled.SHEETS) {
      for (int many : new int[] {0, 1, 23, 24}) {
        for (int place : new int[] {0, 50, 120 - many}) {
          Manydoors x = edge.done("up to 120", filled(sheet, 120 - many),
              y -> y.insert(sheet, place, 8, 0, many), 120);
          check.due("text", x.text(sheet, 0),
              inserted(120 - many, place, Filled.seeded(8).substring(0, many)));
          if (many > 0) {
            edge.refused("up to 121", filled(sheet, 121 - many), y -> y.insert(sheet, place, 8, 0, many));
          }
        }
      }
    }
  }

  /** 8: "to the base ten, without zeros ahead, 0 as "0", one below 0 with "-" ahead"; -9999 to 9999. */
  private static void numbersAtTheirBounds() {
    int[] numbers = {0, 1, 9, 10, 11, 99, 100, 101, 110, 999, 1000, 1001, 1010, 1100, 9998, 9999};
    for (int number : numbers) {
      for (int signed : new int[] {number, -number}) {
        String due = String.valueOf(signed);
        Manydoors x = edge.done("number " + due, Edge.NEW, y -> y.insertNumber(0, 0, signed), due.length());
        check.due("number " + due, x.text(0, 0), due);
      }
    }
    for (int first = -9999; first <= 9999; first += 20) {
      Manydoors x = new Manydoors();
      StringBuilder due = new StringBuilder();
      for (int number = first; number < first + 20 && number <= 9999; number++) {
        x.insertNumber(1, x.length(1, 0), number);
        due.append(number);
      }
      check.due("numbers from " + first, x.text(1, 0), due.toString());
    }
    edge.noArgument("10000", Edge.NEW, x -> x.insertNumber(0, 0, 10000));
    edge.noArgument("-10000", Edge.NEW, x -> x.insertNumber(0, 0, -10000));
    edge.noArgument("the least there is", Edge.NEW, x -> x.insertNumber(0, 0, Integer.MIN_VALUE));
  }

  /** 8: "ahead of the SIGN at a place, or at the end"; "-9 if place is above its LENGTH". */
  private static void numberAtTheEndAndBehindIt() {
    for (int sheet : Filled.SHEETS) {
      for (int length : new int[] {0, 1, 9, 115}) {
        for (int place : new int[] {0, length / 2, Math.max(0, length - 1), length}) {
          String what = "number at " + place + " of " + length;
          Manydoors x = edge.done(what, filled(sheet, length), y -> y.insertNumber(sheet, place, -1000), length + 5);
          check.due(what, x.text(sheet, 0), inserted(length, place, "-1000"));
        }
        edge.refused("behind the end", filled(sheet, length), x -> x.insertNumber(sheet, length + 1, 0));
        edge.refused("at 120", filled(sheet, length), x -> x.insertNumber(sheet, 120, 0));
      }
      edge.refused("at 120 of 119", filled(sheet, 119), x -> x.insertNumber(sheet, 120, 0));
      edge.noIndex("at 121", filled(sheet, 119), x -> x.insertNumber(sheet, 121, 0));
    }
  }

  /** 8: "or its LENGTH would be above 120." */
  private static void numberUpTo120() {
    int[] numbers = {0, -1, -10, 999, 1000, -9999};
    for (int sheet : Filled.SHEETS) {
      for (int number : numbers) {
        String digits = String.valueOf(number);
        int length = 120 - digits.length();
        Manydoors x = edge.done("up to 120", filled(sheet, length), y -> y.insertNumber(sheet, 3, number), 120);
        check.due("text", x.text(sheet, 0), inserted(length, 3, digits));
        edge.refused("up to 121", filled(sheet, length + 1), y -> y.insertNumber(sheet, 3, number));
        edge.refused("at 120", filled(sheet, 120), y -> y.insertNumber(sheet, 120, number));
      }
    }
  }

  /** 9: "-9 if from is above its LENGTH". */
  private static void cutFromTheEndAndBehindIt() {
    for (int sheet : Filled.SHEETS) {
      for (int length : new int[] {0, 1, 7, 119}) {
        String what = "cut from the end of " + length;
        edge.done(what, filled(sheet, length), x -> x.cut(sheet, length, length), 0);
        edge.done(what, filled(sheet, length), x -> x.cut(sheet, length, length + 1), 0);
        Manydoors x = edge.done(what, filled(sheet, length), y -> y.cut(sheet, length, 120), 0);
        check.due(what, x.text(sheet, 0), Filled.text(length));
        check.due(what + " is a step", x.undo(sheet, 12), (length + 23) / 24 + 1);
        edge.refused("cut behind the end", filled(sheet, length), y -> y.cut(sheet, length + 1, length + 1));
        edge.refused("cut behind the end", filled(sheet, length), y -> y.cut(sheet, length + 1, 120));
      }
      edge.done("cut from 120 of 120", filled(sheet, 120), x -> x.cut(sheet, 120, 120), 0);
    }
  }

  /** 9: "or from is above to." */
  private static void cutFromUpToTo() {
    for (int sheet : Filled.SHEETS) {
      for (int from : new int[] {0, 1, 4, 8, 9}) {
        Manydoors x = edge.done("none", filled(sheet, 9), y -> y.cut(sheet, from, from), 0);
        check.due("none", x.text(sheet, 0), Filled.text(9));
        if (from > 0) {
          edge.refused("from above to", filled(sheet, 9), y -> y.cut(sheet, from, from - 1));
          edge.refused("from above 0", filled(sheet, 9), y -> y.cut(sheet, from, 0));
        }
        if (from < 9) {
          Manydoors z = edge.done("one", filled(sheet, 9), y -> y.cut(sheet, from, from + 1), 1);
          check.due("one", z.text(sheet, 0), Filled.text(9).substring(0, from) + Filled.text(9).substring(from + 1));
        }
      }
      edge.refused("both", filled(sheet, 9), y -> y.cut(sheet, 11, 10));
      edge.refused("from 120 to 0 of 120", filled(sheet, 120), y -> y.cut(sheet, 120, 0));
    }
  }

  /** 9: "up to another one (without it) or to the end"; "to: .. perhaps beyond the end". */
  private static void cutBeyondTheEnd() {
    for (int sheet : Filled.SHEETS) {
      int[] tos = {7, 8, 9, 10, 119, 120};
      int[] went = {4, 5, 6, 6, 6, 6};
      for (int i = 0; i < tos.length; i++) {
        int to = tos[i];
        Manydoors x = edge.done("cut 3 to " + to + " of 9", filled(sheet, 9), y -> y.cut(sheet, 3, to), went[i]);
        check.due("text", x.text(sheet, 0), Filled.text(3) + Filled.text(9).substring(3 + went[i]));
      }
      edge.noIndex("to 121", filled(sheet, 9), x -> x.cut(sheet, 3, 121));
    }
  }

  private static void cutAll() {
    for (int sheet : Filled.SHEETS) {
      Manydoors x = edge.done("all 120", filled(sheet, 120), y -> y.cut(sheet, 0, 120), 120);
      check.due("without a sign", x.text(sheet, 0), "");
      edge.done("all 119", filled(sheet, 119), y -> y.cut(sheet, 0, 120), 119);
      edge.done("but the last", filled(sheet, 120), y -> y.cut(sheet, 0, 119), 119);
      edge.done("none of none", Edge.NEW, y -> y.cut(sheet, 0, 120), 0);
      edge.refused("behind none", Edge.NEW, y -> y.cut(sheet, 1, 1));
    }
  }

  /** 10: "Returns its number; -9 if there is none." */
  private static void cutAtTheLastPlaceAndBehindIt() {
    for (int sheet : Filled.SHEETS) {
      for (int length : new int[] {1, 2, 7, 120}) {
        String text = Filled.text(length);
        Manydoors x = edge.done("the last", filled(sheet, length), y -> y.cutAt(sheet, length - 1),
            (int) text.charAt(length - 1));
        check.due("the last is gone", x.text(sheet, 0), text.substring(0, length - 1));
        Manydoors z = edge.done("the first", filled(sheet, length), y -> y.cutAt(sheet, 0), (int) text.charAt(0));
        check.due("the first is gone", z.text(sheet, 0), text.substring(1));
        edge.refused("behind the last", filled(sheet, length), y -> y.cutAt(sheet, length));
      }
      edge.refused("of none", Edge.NEW, x -> x.cutAt(sheet, 0));
      edge.refused("at 120", filled(sheet, 7), x -> x.cutAt(sheet, 120));
      edge.refused("behind what was cut", x -> {
        Filled.open(x, sheet, 7);
        x.cut(sheet, 5, 7);
      }, x -> x.cutAt(sheet, 5));
    }
  }

  /** 10: the number of a BLANK is 0. */
  private static void cutAtOfABlank() {
    for (int sheet : Filled.SHEETS) {
      Manydoors x = edge.done("a blank", y -> y.toLength(sheet, 1), y -> y.cutAt(sheet, 0), 0);
      check.due("it is gone", x.length(sheet, 0), 0);
    }
  }

  /** 11: "Returns 1 if another one was there ..; -9 if there was none." */
  private static void changeAtTheLastPlaceAndBehindIt() {
    for (int sheet : Filled.SHEETS) {
      for (int length : new int[] {1, 2, 7, 120}) {
        String text = Filled.text(length);
        Manydoors x = edge.done("the last", filled(sheet, length), y -> y.change(sheet, length - 1, 29), 1);
        check.due("the last is another", x.text(sheet, 0), text.substring(0, length - 1) + ",");
        Manydoors z = edge.done("the first", filled(sheet, length), y -> y.change(sheet, 0, 25), 1);
        check.due("the first is another", z.text(sheet, 0), "z" + text.substring(1));
        edge.refused("behind the last", filled(sheet, length), y -> y.change(sheet, length, 0));
      }
      edge.refused("of none", Edge.NEW, x -> x.change(sheet, 0, 0));
      edge.refused("at 120", filled(sheet, 7), x -> x.change(sheet, 120, 0));
    }
  }

  /** 11: "0 if the same was": the same SIGN, though it be by another LETTER. */
  private static void changeToTheSame() {
    int[][] same = {{0}, {25}, {26, 27, 28}, {29}, {30, 31}};
    for (int[] letters : same) {
      for (int first : letters) {
        for (int second : letters) {
          Manydoors x = edge.done(first + " to " + second, y -> y.putLetter(1, first, 0),
              y -> y.change(1, 0, second), 0);
          check.due("its sign", x.text(1, 0), Filled.LETTERS.substring(first, first + 1));
          check.due("it is a step", x.steps(1, false), 2);
        }
      }
    }
    edge.done("25 to 26", y -> y.putLetter(1, 25, 0), y -> y.change(1, 0, 26), 1);
    edge.done("28 to 29", y -> y.putLetter(1, 28, 0), y -> y.change(1, 0, 29), 1);
    edge.done("29 to 30", y -> y.putLetter(1, 29, 0), y -> y.change(1, 0, 30), 1);
  }

  private static void changeOfABlank() {
    for (int letter = 0; letter < 32; letter++) {
      int to = letter;
      edge.done("a blank to " + letter, x -> x.toLength(2, 120), x -> x.change(2, 119, to), 1);
    }
  }

  /** 12: "Returns 1 if it is another text then, otherwise 0": of no sign, one, two. */
  private static void turnOfFewSigns() {
    for (int sheet : Filled.SHEETS) {
      Manydoors x = edge.done("none", Edge.NEW, y -> y.turn(sheet), 0);
      check.due("it is a step", x.steps(sheet, false), 1);
      edge.done("one", filled(sheet, 1), y -> y.turn(sheet), 0);
      Manydoors z = edge.done("two", filled(sheet, 2), y -> y.turn(sheet), 1);
      check.due("two", z.text(sheet, 0), "fa");
    }
  }

  private static void turnToTheSame() {
    String[] same = {"aa", "aba", "abba", "a b a", ",/,"};
    for (String text : same) {
      Manydoors x = edge.done(text, y -> Filled.spelt(y, 0, text), y -> y.turn(0), 0);
      check.due(text, x.text(0, 0), text);
    }
    String[] others = {"ab", "abb", "abca", "a ", " ,"};
    for (String text : others) {
      Manydoors x = edge.done(text, y -> Filled.spelt(y, 0, text), y -> y.turn(0), 1);
      check.due(text, x.text(0, 0), new StringBuilder(text).reverse().toString());
    }
    edge.done("blanks", y -> y.toLength(0, 120), y -> y.turn(0), 0);
    edge.done("a space and a blank", y -> {
      y.putLetter(0, 26, 0);
      y.toLength(0, 2);
    }, y -> y.turn(0), 1);
  }

  private static void turnOfTheLongest() {
    for (int length : new int[] {119, 120}) {
      Manydoors x = edge.done("longest", filled(1, length), y -> y.turn(1), 1);
      check.due("longest", x.text(1, 0), new StringBuilder(Filled.text(length)).reverse().toString());
    }
  }

  /** 13: "What is behind that many SIGNS goes; if there are fewer, BLANKS come to the end." 0 to 120. */
  private static void toLengthOfAll() {
    for (int sheet : Filled.SHEETS) {
      for (int before : new int[] {0, 1, 60, 119, 120}) {
        for (int length : new int[] {0, 1, 59, 60, 61, 119, 120}) {
          String what = "from " + before + " to " + length;
          Manydoors x = edge.done(what, filled(sheet, before), y -> y.toLength(sheet, length), before);
          check.due(what, x.text(sheet, 0), (Filled.text(before) + "\0".repeat(120)).substring(0, length));
        }
        edge.noArgument("to 121", filled(sheet, before), y -> y.toLength(sheet, 121));
        edge.noArgument("to -1", filled(sheet, before), y -> y.toLength(sheet, -1));
      }
    }
  }

  /** 13: "Returns its LENGTH till then", and it is a STEP, also if that is the same. */
  private static void toTheSameLength() {
    for (int length : new int[] {0, 1, 120}) {
      Manydoors x = edge.done("the same", filled(2, length), y -> y.toLength(2, length), length);
      check.due("the same", x.text(2, 0), Filled.text(length));
      check.due("it is a step", x.steps(2, false), (length + 23) / 24 + 1);
    }
  }

  private static void blanksNotWhatHadGone() {
    Manydoors x = new Manydoors();
    Filled.open(x, 0, 120);
    x.toLength(0, 0);
    x.toLength(0, 120);
    check.due("blanks", x.text(0, 0), "\0".repeat(120));
    x.undo(0, 2);
    check.due("what had gone", x.text(0, 0), Filled.text(120));
  }
}
