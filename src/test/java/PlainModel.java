import java.util.ArrayList;
import java.util.List;

/**
 * The document told a second time, in whole strings and without care for cost, to compare runs with.
 * It shares no code with the class. Methods have the names and arguments of the face.
 */
public final class PlainModel {
  private final String[] open = {"", "", "", "", "", ""};
  private final List<List<String>> behind = new ArrayList<>();
  private final List<List<String>> ahead = new ArrayList<>();
  private final int[] marks = new int[3];
  private final String[] slots = {"", "", "", ""};
  private final String[] rows = {"", ""};
  private final Press[] presses = {new Press(12, 0), new Press(12, 0)};
  private final int[] house = new int[3];

  private static final class Press {
    final int width;
    final int indent;
    String page = "";
    String word = "";
    String fed = "";
    int gap;

    Press(int width, int indent) {
      this.width = width;
      this.indent = indent;
    }

    int column() {
      return page.length() - (page.lastIndexOf('/') + 1);
    }

    Press feed(String text) {
      for (char sign : text.toCharArray()) {
        fed += sign;
        switch (sign) {
          case '/' -> {
            endWord();
            page += '/';
            gap = 0;
          }
          case ' ' -> {
            endWord();
            if (gap == 0) {
              gap = 1;
            }
          }
          case ',' -> {
            endWord();
            gap = 2;
          }
          default -> word += sign;
        }
      }
      return this;
    }

    void endWord() {
      if (word.isEmpty()) {
        return;
      }
      String put = " ".repeat(indent) + word;
      if (column() > 0) {
        int pad = gap == 2 ? 4 - column() % 4 : 1;
        boolean fits = column() + pad + word.length() <= width;
        put = fits ? " ".repeat(pad) + word : "/" + put;
      }
      page += put;
      word = "";
      gap = 0;
    }
  }

  public PlainModel() {
    for (int i = 0; i < 3; i++) {
      behind.add(new ArrayList<>());
      ahead.add(new ArrayList<>());
    }
  }

  private static void index(int value, int low, int high) {
    if (value < low || value > high) {
      throw new IndexOutOfBoundsException();
    }
  }

  private static void argument(int value, int low, int high) {
    if (value < low || value > high) {
      throw new IllegalArgumentException();
    }
  }

  private int done(int answer) {
    house[0]++;
    return answer;
  }

  private int notDone() {
    house[1]++;
    return -9;
  }

  private String shown(int writer) {
    return writer < 6 ? open[writer] : presses[writer - 6].page;
  }

  private static char letter(int number) {
    return "abcdefghijklmnopqrstuvwxyz   ,//".charAt(number);
  }

  private static String seeded(int seed) {
    StringBuilder text = new StringBuilder();
    for (int i = 0; i < 24; i++) {
      text.append(letter((seed + 5 * i) % 32));
    }
    return text.toString();
  }

  private void become(int writer, String text) {
    if (writer < 3) {
      behind.get(writer).add(open[writer]);
      if (behind.get(writer).size() > 12) {
        behind.get(writer).remove(0);
      }
      ahead.get(writer).clear();
    }
    open[writer] = text;
  }

  private int putIn(int writer, int place, String part) {
    String text = open[writer];
    if (place > text.length() || text.length() + part.length() > 120) {
      return notDone();
    }
    become(writer, text.substring(0, place) + part + text.substring(place));
    return done(open[writer].length());
  }

  private int putOn(int writer, String part) {
    return putIn(writer, open[writer].length(), part);
  }

  public int putLetter(int writer, int letter, int high) {
    index(writer, 0, 5);
    argument(letter, 0, 31);
    argument(high, -3, 3);
    return putOn(writer, "" + letter(letter));
  }

  public int putText(int writer, int seed, int from, int many, int door) {
    index(writer, 0, 5);
    argument(seed, 0, 31);
    argument(from, 0, 24);
    argument(many, 0, 24);
    argument(door, 0, 6);
    return from + many > 24 ? notDone() : putOn(writer, seeded(seed).substring(from, from + many));
  }

  public int putKept(int writer, int slot, int door) {
    index(writer, 0, 5);
    index(slot, 0, 3);
    argument(door, 0, 6);
    return putOn(writer, slots[slot]);
  }

  public int putRow(int writer, int row, int from, int many) {
    index(writer, 0, 5);
    index(row, 0, 1);
    argument(from, 0, 120);
    argument(many, 0, 24);
    return from + many > rows[row].length()
        ? notDone()
        : putOn(writer, rows[row].substring(from, from + many));
  }

  public int pour(int source, int writer) {
    index(source, 0, 7);
    index(writer, 0, 5);
    return putOn(writer, shown(source));
  }

  public int insert(int sheet, int place, int seed, int from, int many) {
    index(sheet, 0, 2);
    index(place, 0, 120);
    argument(seed, 0, 31);
    argument(from, 0, 24);
    argument(many, 0, 24);
    return from + many > 24
        ? notDone()
        : putIn(sheet, place, seeded(seed).substring(from, from + many));
  }

  public int insertNumber(int sheet, int place, int number) {
    index(sheet, 0, 2);
    index(place, 0, 120);
    argument(number, -9999, 9999);
    return putIn(sheet, place, String.valueOf(number));
  }

  public int cut(int sheet, int from, int to) {
    index(sheet, 0, 2);
    index(from, 0, 120);
    index(to, 0, 120);
    String text = open[sheet];
    if (from > text.length() || from > to) {
      return notDone();
    }
    String left = text.substring(0, from) + (to < text.length() ? text.substring(to) : "");
    become(sheet, left);
    return done(text.length() - left.length());
  }

  public int cutAt(int sheet, int place) {
    index(sheet, 0, 2);
    index(place, 0, 120);
    String text = open[sheet];
    if (place >= text.length()) {
      return notDone();
    }
    become(sheet, new StringBuilder(text).deleteCharAt(place).toString());
    return done(text.charAt(place));
  }

  public int change(int sheet, int place, int letter) {
    index(sheet, 0, 2);
    index(place, 0, 120);
    argument(letter, 0, 31);
    String text = open[sheet];
    if (place >= text.length()) {
      return notDone();
    }
    become(sheet, changed(text, place, letter));
    return done(open[sheet].equals(text) ? 0 : 1);
  }

  private static String changed(String text, int place, int letter) {
    return text.substring(0, place) + letter(letter) + text.substring(place + 1);
  }

  public int turn(int sheet) {
    index(sheet, 0, 2);
    String text = open[sheet];
    become(sheet, new StringBuilder(text).reverse().toString());
    return done(open[sheet].equals(text) ? 0 : 1);
  }

  public int toLength(int sheet, int length) {
    index(sheet, 0, 2);
    argument(length, 0, 120);
    int before = open[sheet].length();
    become(sheet, (open[sheet] + "\0".repeat(120)).substring(0, length));
    return done(before);
  }

  private int walk(int sheet, int many, List<String> from, List<String> to) {
    int walked = 0;
    while (walked < many && !from.isEmpty()) {
      to.add(open[sheet]);
      open[sheet] = from.remove(from.size() - 1);
      walked++;
    }
    return walked == 0 ? notDone() : done(walked);
  }

  public int undo(int sheet, int many) {
    index(sheet, 0, 2);
    argument(many, 1, 12);
    return walk(sheet, many, behind.get(sheet), ahead.get(sheet));
  }

  public int redo(int sheet, int many) {
    index(sheet, 0, 2);
    argument(many, 1, 12);
    return walk(sheet, many, ahead.get(sheet), behind.get(sheet));
  }

  public int reset(int roll) {
    index(roll, 3, 5);
    int before = open[roll].length();
    open[roll] = "";
    marks[roll - 3] = 0;
    return done(before);
  }

  public int mark(int roll) {
    index(roll, 3, 5);
    marks[roll - 3] = open[roll].length();
    return done(marks[roll - 3]);
  }

  public int back(int roll) {
    index(roll, 3, 5);
    int before = open[roll].length();
    open[roll] = open[roll].substring(0, marks[roll - 3]);
    return done(before - open[roll].length());
  }

  public int keep(int slot, int writer) {
    index(slot, 0, 3);
    index(writer, 0, 7);
    boolean same = slots[slot].equals(shown(writer));
    slots[slot] = shown(writer);
    return done(same ? 0 : 1);
  }

  public int keepPart(int slot, int writer, int from, int to) {
    index(slot, 0, 3);
    index(writer, 0, 7);
    argument(from, 0, 120);
    argument(to, 0, 120);
    if (from > to || to > shown(writer).length()) {
      return notDone();
    }
    slots[slot] = shown(writer).substring(from, to);
    return done(to - from);
  }

  public int takeRow(int row, int writer) {
    index(row, 0, 1);
    index(writer, 0, 7);
    rows[row] = shown(writer);
    return done(rows[row].length());
  }

  public int changeRow(int row, int place, int letter) {
    index(row, 0, 1);
    index(place, 0, 120);
    argument(letter, 0, 31);
    String text = rows[row];
    if (place >= text.length()) {
      return notDone();
    }
    rows[row] = changed(text, place, letter);
    return done(rows[row].equals(text) ? 0 : 1);
  }

  public int begin(int press, int width, int indent) {
    index(press, 0, 1);
    argument(width, 4, 20);
    argument(indent, 0, 3);
    int before = presses[press].page.length();
    presses[press] = new Press(width, indent);
    return done(before);
  }

  private int feedText(int press, String text) {
    if (presses[press].fed.length() + text.length() > 96) {
      return notDone();
    }
    return done(presses[press].feed(text).page.length());
  }

  public int feed(int press, int seed, int from, int many, int door) {
    index(press, 0, 1);
    argument(seed, 0, 31);
    argument(from, 0, 24);
    argument(many, 0, 24);
    argument(door, 0, 6);
    return from + many > 24
        ? notDone()
        : feedText(press, seeded(seed).substring(from, from + many));
  }

  public int feedLetter(int press, int letter, int door) {
    index(press, 0, 1);
    argument(letter, 0, 31);
    argument(door, 0, 6);
    return feedText(press, "" + letter(letter));
  }

  public int feedKept(int press, int slot, int door) {
    index(press, 0, 1);
    index(slot, 0, 3);
    argument(door, 0, 6);
    return feedText(press, slots[slot]);
  }

  public String text(int writer, int how) {
    index(writer, 0, 7);
    argument(how, 0, 2);
    return shown(writer);
  }

  public int length(int writer, int how) {
    index(writer, 0, 7);
    argument(how, 0, 1);
    return shown(writer).length();
  }

  public int signAt(int writer, int place) {
    index(writer, 0, 7);
    index(place, 0, 120);
    return place < shown(writer).length() ? shown(writer).charAt(place) : -9;
  }

  public int order(int writer, int other) {
    index(writer, 0, 7);
    index(other, 0, 7);
    return Integer.signum(shown(writer).compareTo(shown(other)));
  }

  public int find(int writer, int slot, boolean isLast) {
    index(writer, 0, 7);
    index(slot, 0, 3);
    String text = shown(writer);
    return isLast ? text.lastIndexOf(slots[slot]) : text.indexOf(slots[slot]);
  }

  public String turned(int writer) {
    index(writer, 0, 7);
    return new StringBuilder(shown(writer)).reverse().toString();
  }

  public String joined(int first, int second, int third, boolean isLeft) {
    index(first, 0, 5);
    index(second, 0, 5);
    index(third, 0, 5);
    return open[first] + open[second] + open[third];
  }

  public String keptText(int slot) {
    index(slot, 0, 3);
    return slots[slot];
  }

  public boolean isKept(int slot, int writer) {
    index(slot, 0, 3);
    index(writer, 0, 7);
    return slots[slot].equals(shown(writer));
  }

  public String rowText(int row) {
    index(row, 0, 1);
    return rows[row];
  }

  public int steps(int sheet, boolean isBack) {
    index(sheet, 0, 2);
    return (isBack ? ahead : behind).get(sheet).size();
  }

  public int markOf(int roll) {
    index(roll, 3, 5);
    return marks[roll - 3];
  }

  public String wouldSet(int slot, int width, int indent) {
    index(slot, 0, 3);
    argument(width, 4, 20);
    argument(indent, 0, 3);
    return new Press(width, indent).feed(slots[slot] + " ").page;
  }

  public String line(int press, int number) {
    index(press, 0, 1);
    argument(number, 0, 120);
    String[] lines = presses[press].page.split("/", -1);
    return number < lines.length ? lines[number] : "";
  }

  public String word(int press) {
    index(press, 0, 1);
    return presses[press].word;
  }

  public int pressNumber(int press, int what) {
    index(press, 0, 1);
    argument(what, 0, 6);
    Press asked = presses[press];
    int[] numbers = {
      asked.width, asked.indent, asked.column(), asked.gap, asked.word.length(),
      asked.fed.length(), asked.page.split("/", -1).length
    };
    return numbers[what];
  }

  public int house(int what) {
    argument(what, 0, 2);
    return house[what];
  }

  public int knock() {
    return ++house[2];
  }

  public boolean isSound() {
    return true;
  }

  public long digest() {
    List<Integer> numbers = new ArrayList<>();
    for (int writer = 0; writer < 8; writer++) {
      list(numbers, shown(writer), true);
    }
    for (String slot : slots) {
      list(numbers, slot, true);
    }
    for (String row : rows) {
      list(numbers, row, true);
    }
    for (int sheet = 0; sheet < 3; sheet++) {
      numbers.add(behind.get(sheet).size());
      numbers.add(ahead.get(sheet).size());
    }
    for (int mark : marks) {
      numbers.add(mark);
    }
    for (int press = 0; press < 2; press++) {
      for (int what = 0; what < 7; what++) {
        numbers.add(pressNumber(press, what));
      }
      list(numbers, presses[press].word, false);
    }
    for (int count : house) {
      numbers.add(count);
    }
    numbers.add(1);
    long d = 17704;
    for (int v : numbers) {
      d = d * 31 + v;
    }
    return d;
  }

  private static void list(List<Integer> numbers, String text, boolean hasLength) {
    if (hasLength) {
      numbers.add(text.length());
    }
    for (char sign : text.toCharArray()) {
      numbers.add((int) sign);
    }
  }
}
