/** 'Terms' 5 and promises 23 to 26 and 39 to 42 at their edges; each method stands for a sentence of the document. */
public final class PressEdgesTest {
  private static final Check check = new Check("PressEdgesTest");
  private static final Edge edge = new Edge(check);

  public static void main(String[] args) {
    pressesAtFirst();
    aSlash();
    aSpace();
    aComma();
    anyOtherSign();
    wordWithoutASign();
    wordAtColumn0();
    padOfEachColumn();
    padAtEachWidth();
    tabAtEachWidth();
    notAtMostWidth();
    longerThanWidth();
    gapIs0BehindAWord();
    blanksAndDigitsInWords();
    longestWord();
    beginAtItsBounds();
    beginAnew();
    beginTillThen();
    feedPartEndsAt24And25();
    feedUpTo96();
    letterAt95And96();
    slotUpTo96();
    slotsOfLongPages();
    wouldSetAtItsBounds();
    wouldSetEndsTheWord();
    wouldSetWithoutTheBoundOfFed();
    linesOfAPage();
    linesOfFullPages();
    words();
    pressNumbersAtTheirBounds();
    check.finish();
  }

  private static Edge.Setting with(int width, int indent, String signs) {
    return x -> {
      x.begin(0, width, indent);
      Filled.fedWith(x, 0, signs);
    };
  }

  private static void pageDue(int width, int indent, String signs, String page) {
    String what = "width " + width + ", indent " + indent + ": " + signs;
    edge.asked(what, with(width, indent, signs), x -> x.text(6, 0), page);
    edge.asked(what + ", at once", x -> {
      x.begin(1, width, indent);
      Filled.spelt(x, 3, signs);
      x.keep(0, 3);
      x.feedKept(1, 0, 3);
    }, x -> x.text(7, 0), page);
  }

  /** A press that is new and is fed these signs: its page, its word, its gap. */
  private static void stateDue(String signs, String page, String word, int gap) {
    for (int press : Filled.PRESSES) {
      Edge.Setting fed = x -> Filled.fedWith(x, press, signs);
      edge.asked("page behind " + signs, fed, x -> x.text(6 + press, 0), page);
      edge.asked("word behind " + signs, fed, x -> x.word(press), word);
      edge.asked("gap behind " + signs, fed, x -> x.pressNumber(press, 3), gap);
      edge.asked("fed behind " + signs, fed, x -> x.pressNumber(press, 5), signs.length());
    }
  }

  /** "Each has a WIDTH (at first 12), an INDENT (at first 0), a PAGE, a WORD, a FED .., and a GAP (.. at first 0)." */
  private static void pressesAtFirst() {
    int[] due = {12, 0, 0, 0, 0, 0, 1};
    for (int press : Filled.PRESSES) {
      for (int what = 0; what < due.length; what++) {
        int asked = what;
        edge.asked("number " + what, Edge.NEW, x -> x.pressNumber(press, asked), due[what]);
      }
      edge.asked("page", Edge.NEW, x -> x.text(6 + press, 0), "");
      edge.asked("word", Edge.NEW, x -> x.word(press), "");
      Edge.Call page = x -> x.text(6 + press, 0);
      edge.asked("width 12", x -> Filled.fedWith(x, press, "abcdef ghijk "), page, "abcdef ghijk");
      edge.asked("width 12", x -> Filled.fedWith(x, press, "abcdef ghijkl "), page, "abcdef/ghijkl");
    }
  }

  /** "a SLASH: the WORD ends, a SLASH is put at the end of PAGE, and GAP is 0". */
  private static void aSlash() {
    stateDue("/", "/", "", 0);
    stateDue("//", "//", "", 0);
    stateDue("a/", "a/", "", 0);
    stateDue(" /", "/", "", 0);
    stateDue(",/", "/", "", 0);
    stateDue(" a/", "a/", "", 0);
    stateDue(",a/", "a/", "", 0);
    stateDue("a /", "a/", "", 0);
    stateDue("a,/", "a/", "", 0);
    stateDue("a,b/", "a   b/", "", 0);
  }

  /** "a SPACE: the WORD ends, and GAP becomes 1, if it is 0". */
  private static void aSpace() {
    stateDue(" ", "", "", 1);
    stateDue("  ", "", "", 1);
    stateDue(", ", "", "", 2);
    stateDue("/ ", "/", "", 1);
    stateDue("a ", "a", "", 1);
    stateDue(",a ", "a", "", 1);
    stateDue("a  ", "a", "", 1);
    stateDue("a, ", "a", "", 2);
    stateDue("a,b ", "a   b", "", 1);
  }

  /** "a COMMA: the WORD ends, and GAP becomes 2". */
  private static void aComma() {
    stateDue(",", "", "", 2);
    stateDue(",,", "", "", 2);
    stateDue(" ,", "", "", 2);
    stateDue("/,", "/", "", 2);
    stateDue("a,", "a", "", 2);
    stateDue("a ,", "a", "", 2);
    stateDue("a b,", "a b", "", 2);
  }

  /** "any other SIGN: it comes to the end of the WORD." GAP stays as it was. */
  private static void anyOtherSign() {
    stateDue("a", "", "a", 0);
    stateDue("az", "", "az", 0);
    stateDue(" a", "", "a", 1);
    stateDue(",a", "", "a", 2);
    stateDue("/a", "/", "a", 0);
    stateDue("b,a", "b", "a", 2);
  }

  /** "The WORD ends: if it has no SIGN, nothing is done." No indent is put, and no gap. */
  private static void wordWithoutASign() {
    pageDue(12, 3, " ", "");
    pageDue(12, 3, ",", "");
    pageDue(12, 3, "/", "/");
    pageDue(12, 3, " , /, /", "//");
    pageDue(12, 3, "a ,  /", "   a/");
    pageDue(12, 3, "a,,  b ", "   a    b");
  }

  /** "if COLUMN is 0: INDENT SPACES and the WORD": whatever the GAP is. */
  private static void wordAtColumn0() {
    for (int indent = 0; indent <= 3; indent++) {
      String spaces = " ".repeat(indent);
      pageDue(12, indent, "a ", spaces + "a");
      pageDue(12, indent, " a ", spaces + "a");
      pageDue(12, indent, ",a ", spaces + "a");
      pageDue(12, indent, "/a ", "/" + spaces + "a");
      pageDue(12, indent, "a/,b/", spaces + "a/" + spaces + "b/");
    }
  }

  /** "PAD is 4 - (what remains of COLUMN divided by 4), if GAP is 2, otherwise 1". */
  private static void padOfEachColumn() {
    int[] pads = {3, 2, 1, 4, 3, 2, 1, 4, 3, 2, 1, 4, 3, 2, 1, 4};
    for (int column = 1; column <= 16; column++) {
      String first = "abcdefghijklmnop".substring(0, column);
      int pad = pads[column - 1];
      String due = column + pad + 1 <= 20 ? first + " ".repeat(pad) + "z" : first + "/z";
      pageDue(20, 0, first + ",z ", due);
      pageDue(20, 0, first + " ,z ", due);
      pageDue(20, 0, first + " z ", first + " z");
      pageDue(20, 0, first + "   z,", first + " z");
    }
    pageDue(20, 3, "a,z ", "   a    z");
    pageDue(20, 2, "a,z ", "  a z");
    pageDue(20, 1, "a b,z ", " a b    z");
  }

  /** "if COLUMN + PAD + the WORD's LENGTH is at most WIDTH": with a PAD of 1. */
  private static void padAtEachWidth() {
    for (int width = 4; width <= 20; width++) {
      String word = "abcdefghijklmnopqrstuvwxyz".substring(0, width - 2);
      pageDue(width, 0, "z " + word + " ", "z " + word);
      pageDue(width, 0, "zz " + word + " ", "zz/" + word);
      pageDue(width, 0, "z " + word + "y ", "z/" + word + "y");
      pageDue(width, 0, word + " z ", word + " z");
      pageDue(width, 0, word + "y z ", word + "y/z");
    }
  }

  /** The same with the PAD of a COMMA. */
  private static void tabAtEachWidth() {
    for (int width = 5; width <= 20; width++) {
      String word = "abcdefghijklmnopqrstuvwxyz".substring(0, width - 4);
      pageDue(width, 0, "z," + word + " ", "z   " + word);
      pageDue(width, 0, "z," + word + "y ", "z/" + word + "y");
      pageDue(width, 0, "zzz," + word + " ", "zzz " + word);
    }
    pageDue(4, 0, "z,a ", "z/a");
    pageDue(9, 0, "zzzz,a ", "zzzz    a");
    pageDue(8, 0, "zzzz,a ", "zzzz/a");
  }

  /** "otherwise a SLASH, INDENT SPACES and the WORD." */
  private static void notAtMostWidth() {
    for (int indent = 0; indent <= 3; indent++) {
      String spaces = " ".repeat(indent);
      pageDue(4, indent, "ab cd ", spaces + "ab/" + spaces + "cd");
      pageDue(4, indent, "ab,cd ef,", spaces + "ab/" + spaces + "cd/" + spaces + "ef");
    }
    edge.asked("the column behind it", with(4, 3, "ab cd "), x -> x.pressNumber(0, 2), 5);
    edge.asked("the lines behind it", with(4, 3, "ab cd "), x -> x.pressNumber(0, 6), 2);
  }

  private static void longerThanWidth() {
    pageDue(4, 0, "abcd e ", "abcd/e");
    pageDue(4, 0, "abcde f ", "abcde/f");
    pageDue(4, 0, "a bcdef ", "a/bcdef");
    pageDue(4, 3, "ab c ", "   ab/   c");
    pageDue(4, 3, "a b ", "   a/   b");
    pageDue(5, 3, "a b ", "   a/   b");
    pageDue(6, 3, "a b ", "   a b");
    edge.asked("sound", with(4, 3, "abcdefgh i,jklmnop/q "), x -> x.isSound(), true);
  }

  /** "Then the WORD has no SIGN, and GAP is 0." A COMMA's gap is not used a second time. */
  private static void gapIs0BehindAWord() {
    pageDue(20, 0, "a,b c ", "a   b c");
    pageDue(20, 0, "a b,c d ", "a b c d");
    pageDue(20, 0, ",a b ", "a b");
    pageDue(20, 0, "a,/b c ", "a/b c");
    edge.asked("no word is left", with(12, 0, "ab "), x -> x.word(0), "");
  }

  private static void blanksAndDigitsInWords() {
    Edge.Setting number = x -> {
      x.insertNumber(0, 0, -90);
      x.toLength(0, 5);
      x.keep(0, 0);
      x.begin(1, 4, 0);
      x.feedKept(1, 0, 0);
      x.feedKept(1, 0, 0);
    };
    edge.asked("they come to the word", number, x -> x.word(1), "-90\0\0-90\0\0");
    edge.asked("a blank in a long word", x -> {
      number.on(x);
      x.feedLetter(1, 29, 0);
    }, x -> x.text(7, 0) + "|" + x.pressNumber(1, 2) + "|" + x.isSound(), "-90\0\0-90\0\0|10|true");
  }

  /** The WORD can have all of FED. */
  private static void longestWord() {
    Edge.Setting word96 = x -> {
      x.toLength(0, 96);
      x.keep(0, 0);
      x.begin(0, 4, 3);
      x.feedKept(0, 0, 0);
    };
    edge.asked("96 signs", word96, x -> x.word(0), "\0".repeat(96));
    edge.asked("its length", word96, x -> x.pressNumber(0, 4), 96);
    edge.asked("no page", word96, x -> x.length(6, 0), 0);
    edge.refused("its end", word96, x -> x.feedLetter(0, 26, 0));
    Manydoors x = edge.done("95 and their end", y -> {
      y.toLength(0, 95);
      y.keep(0, 0);
      y.begin(0, 4, 3);
      y.feedKept(0, 0, 0);
    }, y -> y.feedLetter(0, 26, 0), 98);
    check.due("sound", x.isSound(), true);
    check.due("its column", x.pressNumber(0, 2), 98);
  }

  /** 23: WIDTH 4 to 20, INDENT 0 to 3. */
  private static void beginAtItsBounds() {
    for (int press : Filled.PRESSES) {
      for (int width = 4; width <= 20; width++) {
        for (int indent = 0; indent <= 3; indent++) {
          Manydoors x = new Manydoors();
          check.due("begin", x.begin(press, width, indent), 0);
          check.due("width", x.pressNumber(press, 0), width);
          check.due("indent", x.pressNumber(press, 1), indent);
          check.due("the other width", x.pressNumber(1 - press, 0), 12);
          check.due("the other indent", x.pressNumber(1 - press, 1), 0);
        }
      }
      edge.noArgument("width 3", Filled::rich, x -> x.begin(press, 3, 0));
      edge.noArgument("width 21", Filled::rich, x -> x.begin(press, 21, 0));
      edge.noArgument("indent -1", Filled::rich, x -> x.begin(press, 4, -1));
      edge.noArgument("indent 4", Filled::rich, x -> x.begin(press, 20, 4));
    }
  }

  /** 23: "its PAGE, its WORD and its FED are without a SIGN, its GAP is 0." */
  private static void beginAnew() {
    for (int press : Filled.PRESSES) {
      Edge.Setting used = x -> {
        Filled.fed(x, press, 95);
        x.feedLetter(press, 29, 0);
        Filled.fedWith(x, 1 - press, "ab,cd");
      };
      Manydoors x = new Manydoors();
      used.on(x);
      String other = x.text(7 - press, 0) + x.word(1 - press) + x.pressNumber(1 - press, 3);
      x.begin(press, 12, 0);
      int[] due = {12, 0, 0, 0, 0, 0, 1};
      for (int what = 0; what < due.length; what++) {
        check.due("number " + what, x.pressNumber(press, what), due[what]);
      }
      check.due("page", x.text(6 + press, 0), "");
      check.due("word", x.word(press), "");
      check.due("the other press", x.text(7 - press, 0) + x.word(1 - press) + x.pressNumber(1 - press, 3), other);
      Filled.fed(x, press, 96);
      check.due("it can be fed 96 again", x.pressNumber(press, 5), 96);
      check.due("as a new one", x.isSound(), true);
    }
  }

  /** 23: "Returns its PAGE's LENGTH till then." */
  private static void beginTillThen() {
    for (int press : Filled.PRESSES) {
      for (int length : new int[] {0, 1, 5, 120, 121, 240}) {
        edge.done("begin", x -> Filled.page(x, press, length), x -> x.begin(press, 4, 0), length);
      }
      edge.done("a word is no page", x -> Filled.fedWith(x, press, "abc"), x -> x.begin(press, 4, 0), 0);
    }
  }

  /** 24: "-9 if from + many is above 24". */
  private static void feedPartEndsAt24And25() {
    for (int press : Filled.PRESSES) {
      Manydoors x = edge.done("0 24", Edge.NEW, y -> y.feed(press, 0, 0, 24, 0), 19);
      check.due("its page", x.text(6 + press, 0), "afkpuz/dinsx bglqv/");
      edge.done("24 0", Edge.NEW, y -> y.feed(press, 0, 24, 0, 0), 0);
      Manydoors z = edge.done("23 1", Edge.NEW, y -> y.feed(press, 31, 23, 1, 0), 0);
      check.due("its word", z.word(press), "s");
      edge.refused("1 24", Edge.NEW, y -> y.feed(press, 0, 1, 24, 0));
      edge.refused("24 1", Edge.NEW, y -> y.feed(press, 0, 24, 1, 0));
      edge.refused("24 24", Edge.NEW, y -> y.feed(press, 0, 24, 24, 0));
    }
  }

  /** 24: "or FED's LENGTH would be above 96." */
  private static void feedUpTo96() {
    for (int press : Filled.PRESSES) {
      for (int many : new int[] {0, 1, 2, 23, 24}) {
        Manydoors x = new Manydoors();
        Filled.fed(x, press, 96 - many);
        int page = x.feed(press, 30, 0, many, 0);
        check.due("page behind " + many, page, x.length(6 + press, 0));
        check.due("fed behind " + many, x.pressNumber(press, 5), 96);
        if (many > 0) {
          edge.refused("97 by " + many, y -> Filled.fed(y, press, 97 - many), y -> y.feed(press, 30, 0, many, 0));
        }
      }
      edge.refused("both", y -> Filled.fed(y, press, 96), y -> y.feed(press, 0, 24, 1, 0));
    }
  }

  /** 25: "Returns its PAGE's LENGTH then; -9 if FED's LENGTH is 96." */
  private static void letterAt95And96() {
    for (int press : Filled.PRESSES) {
      for (int letter : new int[] {0, 25, 26, 28, 29, 30, 31}) {
        Manydoors x = new Manydoors();
        Filled.fed(x, press, 95);
        int page = x.feedLetter(press, letter, 0);
        check.due("page behind letter " + letter, page, x.length(6 + press, 0));
        check.due("fed behind letter " + letter, x.pressNumber(press, 5), 96);
        check.due("done", x.house(1), 0);
        edge.refused("letter " + letter + " at 96", y -> Filled.fed(y, press, 96), y -> y.feedLetter(press, letter, 0));
      }
    }
  }

  /** 26: "-9 if FED's LENGTH would be above 96." */
  private static void slotUpTo96() {
    for (int press : Filled.PRESSES) {
      for (int slot : Filled.SLOTS) {
        for (int kept : new int[] {0, 1, 50, 95, 96}) {
          Edge.Setting fits = x -> {
            Filled.slot(x, slot, kept);
            Filled.fed(x, press, 96 - kept);
          };
          Manydoors x = new Manydoors();
          fits.on(x);
          int page = x.feedKept(press, slot, 0);
          check.due("page behind a slot of " + kept, page, x.length(6 + press, 0));
          check.due("fed behind a slot of " + kept, x.pressNumber(press, 5), 96);
          edge.refused("97 by a slot of " + (kept + 1), y -> {
            Filled.slot(y, slot, kept + 1);
            Filled.fed(y, press, 96 - kept);
          }, y -> y.feedKept(press, slot, 0));
        }
        edge.refused("120 at once", y -> Filled.slot(y, slot, 120), y -> y.feedKept(press, slot, 0));
        edge.done("nothing on nothing", Edge.NEW, y -> y.feedKept(press, slot, 0), 0);
      }
    }
  }

  private static void slotsOfLongPages() {
    for (int press : Filled.PRESSES) {
      edge.refused("240", y -> Filled.slotOfPage(y, 0, 240), y -> y.feedKept(press, 0, 0));
      edge.refused("97", y -> Filled.slotOfPage(y, 0, 97), y -> y.feedKept(press, 0, 0));
      Manydoors x = edge.done("96", y -> Filled.slotOfPage(y, 0, 96), y -> y.feedKept(press, 0, 0), 39);
      check.due("96", x.text(6 + press, 0), "a/".repeat(19) + "/");
    }
  }

  /** 39: WIDTH 4 to 20, INDENT 0 to 3: "the PAGE of a PRESS that begins anew with these". */
  private static void wouldSetAtItsBounds() {
    Edge.Setting kept = x -> {
      Filled.spelt(x, 3, "ab c,d/e fghij");
      x.keep(2, 3);
    };
    edge.asked("4, 0", kept, x -> x.wouldSet(2, 4, 0), "ab c/d/e/fghij");
    edge.asked("4, 3", kept, x -> x.wouldSet(2, 4, 3), "   ab/   c/   d/   e/   fghij");
    edge.asked("20, 0", kept, x -> x.wouldSet(2, 20, 0), "ab c    d/e fghij");
    edge.asked("20, 3", kept, x -> x.wouldSet(2, 20, 3), "   ab c d/   e fghij");
    for (int slot : Filled.SLOTS) {
      for (int width = 4; width <= 20; width++) {
        for (int indent = 0; indent <= 3; indent++) {
          Manydoors x = new Manydoors();
          Filled.slot(x, slot, 95);
          String would = x.wouldSet(slot, width, indent);
          x.begin(1, width, indent);
          x.feedKept(1, slot, 0);
          x.feedLetter(1, 27, 0);
          check.due("would set " + width + " " + indent, would, x.text(7, 0));
        }
      }
      edge.asked("a slot without a sign", Edge.NEW, x -> x.wouldSet(slot, 4, 3), "");
    }
  }

  /** 39: "and is fed what the SLOT has, and then a SPACE". */
  private static void wouldSetEndsTheWord() {
    String[] kept = {"a", "a ", "a,", "a/", "/", " ", ",", "a b"};
    String[] due = {" a", " a", " a", " a/", "/", "", "", " a b"};
    for (int i = 0; i < kept.length; i++) {
      String signs = kept[i];
      edge.asked("would set " + signs, x -> {
        Filled.spelt(x, 3, signs);
        x.keep(0, 3);
      }, x -> x.wouldSet(0, 8, 1), due[i]);
    }
  }

  /** 39: "the bound of FED does not hold here". */
  private static void wouldSetWithoutTheBoundOfFed() {
    for (int length : new int[] {96, 97, 119, 120}) {
      Edge.Setting blanks = x -> {
        x.toLength(0, length);
        x.keep(0, 0);
      };
      edge.asked("one word of " + length, blanks, x -> x.wouldSet(0, 4, 3), "   " + "\0".repeat(length));
    }
    for (int length : new int[] {96, 120, 121, 240}) {
      Edge.Setting page = x -> Filled.slotOfPage(x, 0, length);
      edge.asked("a page of " + length, page, x -> x.wouldSet(0, 4, 3), Filled.pageText(length));
      edge.asked("a page of " + length, page, x -> x.wouldSet(0, 20, 0), Filled.pageText(length).replace(" ", ""));
    }
    Edge.Setting words = x -> {
      Filled.spelt(x, 4, "a b c d e f g h i j ");
      for (int i = 0; i < 5; i++) {
        x.keepPart(3, 4, 0, 20);
        x.putKept(4, 3, 0);
      }
      x.keep(3, 4);
    };
    edge.asked("60 words", words, x -> x.keptText(3).length(), 120);
    edge.asked("60 words", words, x -> x.wouldSet(3, 4, 3),
        "   a/   b/   c/   d/   e/   f/   g/   h/   i/   j/".repeat(6).substring(0, 299));
  }

  /** "A PAGE's lines are parted by its SLASHES; it has one more than it has SLASHES, numbered from 0 on." 40. */
  private static void linesOfAPage() {
    lineDue("", "");
    lineDue("ab ", "ab");
    lineDue("ab/", "ab", "");
    lineDue("/", "", "");
    lineDue("//", "", "", "");
    lineDue("ab//cd ", "ab", "", "cd");
    lineDue("ab cd,ef/g ", "ab cd", "ef", "g");
    lineDue("ab/c", "ab", "");
  }

  private static void lineDue(String signs, String... lines) {
    Edge.Setting fed = with(5, 0, signs);
    for (int number = 0; number < lines.length; number++) {
      int asked = number;
      edge.asked("line " + number + " of " + signs, fed, x -> x.line(0, asked), lines[number]);
    }
    edge.asked("lines of " + signs, fed, x -> x.pressNumber(0, 6), lines.length);
    edge.asked("column of " + signs, fed, x -> x.pressNumber(0, 2), lines[lines.length - 1].length());
    edge.asked("no such line of " + signs, fed, x -> x.line(0, lines.length), "");
    edge.asked("line 120 of " + signs, fed, x -> x.line(0, 120), "");
    edge.asked("the other press", fed, x -> x.line(1, 0), "");
    edge.noArgument("line 121", fed, x -> x.line(0, 121));
    edge.noArgument("line -1", fed, x -> x.line(0, -1));
  }

  private static void linesOfFullPages() {
    for (int press : Filled.PRESSES) {
      Edge.Setting slashes = x -> Filled.fedWith(x, press, "/".repeat(96));
      edge.asked("97 lines", slashes, x -> x.pressNumber(press, 6), 97);
      edge.asked("line 96", slashes, x -> x.line(press, 96), "");
      edge.asked("line 97", slashes, x -> x.line(press, 97), "");
      Edge.Setting words = x -> {
        x.begin(press, 4, 3);
        Filled.fedWith(x, press, "/".repeat(94) + "z ");
      };
      edge.asked("line 93", words, x -> x.line(press, 93), "");
      edge.asked("line 94", words, x -> x.line(press, 94), "   z");
      edge.asked("line 95", words, x -> x.line(press, 95), "");
      edge.asked("the longest page", x -> Filled.page(x, press, 240), x -> x.line(press, 47), "   a");
      edge.asked("the longest page", x -> Filled.page(x, press, 240), x -> x.line(press, 48), "");
    }
  }

  /** 41: "Returns its WORD." */
  private static void words() {
    for (int press : Filled.PRESSES) {
      edge.asked("none", Edge.NEW, x -> x.word(press), "");
      edge.asked("one", x -> x.feedLetter(press, 25, 0), x -> x.word(press), "z");
      edge.asked("ended", x -> Filled.fedWith(x, press, "ab "), x -> x.word(press), "");
      edge.asked("the next", x -> Filled.fedWith(x, press, "ab c"), x -> x.word(press), "c");
      edge.asked("of the other", x -> Filled.fedWith(x, 1 - press, "ab c"), x -> x.word(press), "");
    }
  }

  /** 42: each number at the least and at the most that it can be. */
  private static void pressNumbersAtTheirBounds() {
    for (int press : Filled.PRESSES) {
      Edge.Setting full = x -> {
        x.begin(press, 20, 3);
        Filled.fedWith(x, press, "abcdefghijklmnopq r,/s,t");
      };
      int[] due = {20, 3, 4, 2, 1, 24, 3};
      for (int what = 0; what < due.length; what++) {
        int asked = what;
        edge.asked("number " + what, full, x -> x.pressNumber(press, asked), due[what]);
      }
      edge.noArgument("number 7", full, x -> x.pressNumber(press, 7));
      edge.noArgument("number -1", full, x -> x.pressNumber(press, -1));
      edge.asked("column of 20", x -> {
        x.begin(press, 20, 3);
        Filled.fedWith(x, press, "abcdefghijklmnopq ");
      }, x -> x.pressNumber(press, 2), 20);
      edge.asked("column 0 behind a slash", x -> Filled.fedWith(x, press, "ab/"), x -> x.pressNumber(press, 2), 0);
      edge.asked("column 1 behind a slash", x -> Filled.fedWith(x, press, "/a "), x -> x.pressNumber(press, 2), 1);
      edge.asked("fed 96", x -> Filled.fed(x, press, 96), x -> x.pressNumber(press, 5), 96);
    }
  }
}
