/** Promises 23 to 26 and 39 to 42: presses. */
public final class PressTest {
  private static final Check check = new Check("PressTest");

  public static void main(String[] args) {
    begins();
    feeding();
    doorsComeToTheSame();
    feedingLetters();
    feedingKept();
    wordsAndGaps();
    tabStops();
    widthIsReached();
    indentsAndLongWords();
    slashes();
    otherSigns();
    wouldSets();
    lines();
    check.finish();
  }

  /** Feeds letters, one by one: a comma, a slash and a space stand for themselves. */
  private static Manydoors fed(int width, int indent, String signs) {
    Manydoors x = new Manydoors();
    x.begin(0, width, indent);
    for (char sign : signs.toCharArray()) {
      int letter = sign == ' ' ? 27 : sign == ',' ? 29 : sign == '/' ? 31 : sign - 'a';
      x.feedLetter(0, letter, 0);
    }
    check.due("sound with " + signs, x.isSound(), true);
    return x;
  }

  private static void pageDue(int width, int indent, String signs, String page) {
    check.due(width + ", " + indent + ": " + signs, fed(width, indent, signs).text(6, 0), page);
  }

  private static void numbersDue(Manydoors x, int press, int... due) {
    for (int what = 0; what < due.length; what++) {
      check.due("pressNumber of " + what, x.pressNumber(press, what), due[what]);
    }
  }

  private static void begins() {
    Manydoors x = fed(6, 2, "ab cd,ef");
    numbersDue(x, 0, 6, 2, 4, 2, 2, 8, 2);
    check.act(x, "begin", () -> x.begin(0, 20, 3), 9);
    numbersDue(x, 0, 20, 3, 0, 0, 0, 0, 1);
    check.due("page", x.text(6, 0), "");
    check.due("word", x.word(0), "");
    check.act(x, "begin again", () -> x.begin(0, 4, 0), 0);
    check.act(x, "the other one", () -> x.begin(1, 4, 1), 0);
    numbersDue(x, 0, 4, 0, 0, 0, 0, 0, 1);
    numbersDue(x, 1, 4, 1, 0, 0, 0, 0, 1);
  }

  private static void feeding() {
    Manydoors x = new Manydoors();
    check.act(x, "a whole text", () -> x.feed(1, 0, 0, 24, 0), 19);
    check.due("its page", x.text(7, 0), "afkpuz/dinsx bglqv/");
    check.due("its word", x.word(1), "ejot");
    numbersDue(x, 1, 12, 0, 0, 0, 4, 24, 3);
    check.act(x, "a part", () -> x.feed(1, 9, 3, 4, 0), 24);
    check.due("the word went on", x.text(7, 0), "afkpuz/dinsx bglqv/ejoty");
    check.due("the next word", x.word(1), "ch");
    check.act(x, "nothing", () -> x.feed(1, 2, 24, 0, 0), 24);
    check.notDone(x, "beyond the text", () -> x.feed(1, 2, 24, 1, 0));
    check.notDone(x, "beyond the text", () -> x.feed(1, 2, 1, 24, 0));
    check.due("the other press", x.pressNumber(0, 5), 0);
    x.feed(1, 3, 0, 24, 0);
    x.feed(1, 4, 0, 24, 0);
    check.act(x, "19 more", () -> x.feed(1, 5, 0, 19, 0), 92);
    check.notDone(x, "two at 95", () -> x.feed(1, 5, 0, 2, 0));
    check.act(x, "one at 95", () -> x.feed(1, 5, 0, 1, 0), 92);
    check.notDone(x, "one at 96", () -> x.feed(1, 5, 0, 1, 0));
    check.act(x, "none at 96", () -> x.feed(1, 5, 0, 0, 0), 92);
  }

  private static Manydoors fedThrough(int door) {
    Manydoors x = new Manydoors();
    x.begin(1, 9, 2);
    x.feed(1, 28, 0, 23, door);
    x.feedLetter(1, 29, door);
    x.putText(0, 9, 0, 14, 0);
    x.keep(3, 0);
    x.feedKept(1, 3, door);
    return x;
  }

  private static void doorsComeToTheSame() {
    Manydoors first = fedThrough(0);
    check.due("door 0", first.text(7, 0), "  bglqv/  ejoty/  chmrw/  afk/  joty/  chmrw");
    for (int door = 1; door < 7; door++) {
      check.due("door " + door, fedThrough(door).digest(), first.digest());
    }
  }

  private static void feedingLetters() {
    Manydoors x = new Manydoors();
    check.act(x, "a letter", () -> x.feedLetter(0, 25, 6), 0);
    check.due("the word", x.word(0), "z");
    check.act(x, "a comma", () -> x.feedLetter(0, 29, 5), 1);
    numbersDue(x, 0, 12, 0, 1, 2, 0, 2, 1);
    check.act(x, "a space", () -> x.feedLetter(0, 28, 4), 1);
    check.act(x, "a letter", () -> x.feedLetter(0, 0, 3), 1);
    check.act(x, "a slash", () -> x.feedLetter(0, 30, 2), 6);
    check.due("the page", x.text(6, 0), "z   a/");
    numbersDue(x, 0, 12, 0, 0, 0, 0, 5, 2);
    for (int i = 5; i < 96; i++) {
      x.feedLetter(0, 31, 0);
    }
    check.due("fed", x.pressNumber(0, 5), 96);
    check.due("lines", x.pressNumber(0, 6), 93);
    check.notDone(x, "a letter at 96", () -> x.feedLetter(0, 0, 0));
  }

  private static void feedingKept() {
    Manydoors x = new Manydoors();
    x.putText(3, 0, 0, 24, 0);
    x.keep(1, 3);
    check.act(x, "a slot", () -> x.feedKept(0, 1, 5), 19);
    check.act(x, "a slot without a sign", () -> x.feedKept(0, 0, 6), 19);
    for (int i = 0; i < 3; i++) {
      x.feedKept(0, 1, 0);
    }
    check.due("fed", x.pressNumber(0, 5), 96);
    check.notDone(x, "a slot at 96", () -> x.feedKept(0, 1, 0));
    check.act(x, "nothing at 96", () -> x.feedKept(0, 0, 0), x.length(6, 0));
    x.putText(3, 0, 0, 24, 0);
    x.putText(3, 0, 0, 24, 0);
    x.putText(3, 0, 0, 24, 0);
    x.keep(2, 3);
    check.act(x, "96 at once", () -> x.feedKept(1, 2, 0), x.length(6, 0));
    check.due("the same page", x.order(6, 7), 0);
    x.begin(1, 12, 0);
    x.putLetter(3, 0, 0);
    x.keep(2, 3);
    check.notDone(x, "97 at once", () -> x.feedKept(1, 2, 0));
  }

  private static void wordsAndGaps() {
    Manydoors x = fed(12, 0, "ab");
    check.due("a word is no page yet", x.text(6, 0), "");
    check.due("the word", x.word(0), "ab");
    numbersDue(x, 0, 12, 0, 0, 0, 2, 2, 1);
    numbersDue(fed(12, 0, " "), 0, 12, 0, 0, 1, 0, 1, 1);
    numbersDue(fed(12, 0, ","), 0, 12, 0, 0, 2, 0, 1, 1);
    numbersDue(fed(12, 0, ", "), 0, 12, 0, 0, 2, 0, 2, 1);
    numbersDue(fed(12, 0, " ,"), 0, 12, 0, 0, 2, 0, 2, 1);
    numbersDue(fed(12, 0, ",/"), 0, 12, 0, 0, 0, 0, 2, 2);
    numbersDue(fed(12, 0, "a,b "), 0, 12, 0, 5, 1, 0, 4, 1);
    numbersDue(fed(12, 0, "a,b,"), 0, 12, 0, 5, 2, 0, 4, 1);
    pageDue(12, 0, "a b ", "a b");
    pageDue(12, 0, "a   b ", "a b");
    pageDue(12, 0, "  a  ", "a");
  }

  private static void tabStops() {
    pageDue(12, 0, "a,b ", "a   b");
    pageDue(12, 0, "a, b ", "a   b");
    pageDue(12, 0, "a ,b ", "a   b");
    pageDue(12, 0, "a,,b,", "a   b");
    pageDue(12, 0, "ab,c ", "ab  c");
    pageDue(12, 0, "abc,d ", "abc d");
    pageDue(12, 0, "abcd,e ", "abcd    e");
    pageDue(12, 0, "abcde,f ", "abcde   f");
    pageDue(12, 0, "a,b c ", "a   b c");
    pageDue(12, 1, "a,b ", " a  b");
    pageDue(12, 0, ",a b ", "a b");
    pageDue(12, 0, "a,/b c ", "a/b c");
  }

  private static void widthIsReached() {
    pageDue(5, 0, "ab cd ", "ab cd");
    pageDue(4, 0, "ab cd ", "ab/cd");
    pageDue(9, 0, "abcd,e ", "abcd    e");
    pageDue(8, 0, "abcd,e ", "abcd/e");
    pageDue(8, 0, "abcd,e f ", "abcd/e f");
    pageDue(20, 0, "abcdefghi jklmnopqrs ", "abcdefghi jklmnopqrs");
    pageDue(20, 0, "abcdefghi jklmnopqrst ", "abcdefghi/jklmnopqrst");
  }

  private static void indentsAndLongWords() {
    pageDue(4, 3, "ab cd ", "   ab/   cd");
    pageDue(4, 0, "abcdefgh i ", "abcdefgh/i");
    pageDue(4, 3, "abcdefgh i ", "   abcdefgh/   i");
    pageDue(6, 2, "a b c ", "  a b/  c");
    pageDue(6, 2, "a b/c d ", "  a b/  c d");
    pageDue(6, 1, "a//b ", " a// b");
  }

  private static void slashes() {
    pageDue(12, 3, "/", "/");
    pageDue(12, 0, "a/", "a/");
    pageDue(12, 0, "a//b ", "a//b");
    pageDue(12, 0, " / a", "/");
    numbersDue(fed(12, 0, "//a "), 0, 12, 0, 1, 1, 0, 4, 3);
    numbersDue(fed(4, 0, "ab cd "), 0, 4, 0, 2, 1, 0, 6, 2);
  }

  private static void otherSigns() {
    Manydoors x = new Manydoors();
    x.insertNumber(0, 0, -12);
    x.toLength(0, 5);
    x.keep(0, 0);
    check.act(x, "a number and blanks", () -> x.feedKept(0, 0, 0), 0);
    check.due("they make a word", x.word(0), "-12\0\0");
    check.act(x, "its end", () -> x.feedLetter(0, 26, 0), 5);
    check.due("a blank is no space", x.text(6, 0), "-12\0\0");
    check.due("a blank is no space in a line", x.line(0, 0), "-12\0\0");
    check.due("sound", x.isSound(), true);
  }

  private static void wouldSets() {
    Manydoors x = new Manydoors();
    check.due("nothing", x.wouldSet(0, 4, 3), "");
    x.putText(3, 4, 0, 24, 0);
    x.keep(1, 3);
    long before = x.digest();
    check.due("narrow", x.wouldSet(1, 4, 1), " ejoty/ chmrw/ afkpuz/ dinsx");
    check.due("wide", x.wouldSet(1, 20, 0), "ejoty   chmrw afkpuz/dinsx");
    check.due("nothing is changed", x.digest(), before);
    for (int i = 0; i < 60; i++) {
      x.putLetter(4, i % 26, 0);
      x.putLetter(4, 26, 0);
    }
    x.keep(2, 4);
    String set = x.wouldSet(2, 4, 3);
    check.due("more than 96", set.length(), 60 * 5 - 1);
    check.due("more than 96", set.substring(290), "   g/   h");
  }

  private static void lines() {
    Manydoors x = fed(6, 2, "a b/c//d e f ");
    check.due("the page", x.text(6, 0), "  a b/  c//  d e/  f");
    String[] due = {"  a b", "  c", "", "  d e", "  f", "", ""};
    for (int number = 0; number < due.length; number++) {
      check.due("line " + number, x.line(0, number), due[number]);
    }
    check.due("line 120", x.line(0, 120), "");
    check.due("how many", x.pressNumber(0, 6), 5);
    check.due("line 0 of a page without a sign", x.line(1, 0), "");
    check.due("line behind the last slash", fed(6, 2, "a/").line(0, 1), "");
  }
}
