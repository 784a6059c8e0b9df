/** Three sheets, three rolls and two presses, as the document Manydoors promises them. */
public final class Manydoors {
  private static final int NOT_DONE = -9;

  private static final int BLANK = 0;
  private static final int SPACE = 32;
  private static final int COMMA = 44;
  private static final int MINUS = 45;
  private static final int SLASH = 47;
  private static final int DIGIT_0 = 48;
  private static final int LETTER_A = 97;

  private static final int LETTERS = 32;
  private static final int TEXT_LENGTH = 24;
  private static final int DOORS = 7;

  private static final int SHEETS = 3;
  private static final int ROLLS = 3;
  private static final int PRESSES = 2;
  private static final int OPEN_WRITERS = SHEETS + ROLLS;
  private static final int WRITERS = OPEN_WRITERS + PRESSES;
  private static final int SLOTS = 4;
  private static final int ROWS = 2;

  private static final int OPEN_LENGTH = 120;
  private static final int STEPS_KEPT = 12;
  private static final int FED_LENGTH = 96;
  private static final int FIRST_WIDTH = 12;
  private static final int PRESS_NUMBERS = 7;
  private static final int TAB = 4;

  // A word that is put takes two fed signs at least (itself and its end) and
  // brings four signs beside itself at most, so a page has at most three signs for each fed one.
  private static final int PAGE_SIGNS_PER_FED = 3;
  private static final int PAGE_ROOM = PAGE_SIGNS_PER_FED * FED_LENGTH;

  private static final int NUMBER_BOUND = 9999;
  private static final long DIGEST_START = 17704L;

  private final Sheet[] sheets = new Sheet[SHEETS];
  private final Roll[] rolls = new Roll[ROLLS];
  private final Press[] presses = new Press[PRESSES];
  private final Signs[] slots = new Signs[SLOTS];
  private final Signs[] rows = new Signs[ROWS];

  // These are written over by the call that needs them, so that no call makes rows of its own.
  private final Signs piece = new Signs(3 * OPEN_LENGTH);
  private final Sheet spareSheet = new Sheet();
  private final Press sparePress = new Press(PAGE_ROOM + 1);

  private int actsDone;
  private int actsNotDone;
  private int knocks;

  public Manydoors() {
    for (int i = 0; i < sheets.length; i++) {
      sheets[i] = new Sheet();
    }
    for (int i = 0; i < rolls.length; i++) {
      rolls[i] = new Roll();
    }
    for (int i = 0; i < presses.length; i++) {
      presses[i] = new Press(FED_LENGTH);
    }
    for (int i = 0; i < slots.length; i++) {
      slots[i] = new Signs(PAGE_ROOM);
    }
    for (int i = 0; i < rows.length; i++) {
      rows[i] = new Signs(PAGE_ROOM);
    }
  }

  // ==== what is written on writers
  // All doors are promised to come to the same, so one way serves them all.

  public int putLetter(int writer, int letter, int high)
      throws IndexOutOfBoundsException, IllegalArgumentException {
    needOpen(writer);
    needWithin(letter, 0, LETTERS - 1);
    needWithin(high, -3, 3);
    piece.clear();
    piece.addSign(signOfLetter(letter));
    return putPart(writer, piece, 0, piece.size());
  }

  public int putText(int writer, int seed, int from, int many, int door)
      throws IndexOutOfBoundsException, IllegalArgumentException {
    needOpen(writer);
    needPartOfText(seed, from, many);
    needDoor(door);
    if (from + many > TEXT_LENGTH) {
      return notDone();
    }
    loadText(seed, from, many);
    return putPart(writer, piece, 0, piece.size());
  }

  public int putKept(int writer, int slot, int door)
      throws IndexOutOfBoundsException, IllegalArgumentException {
    needOpen(writer);
    Signs kept = slotAt(slot);
    needDoor(door);
    return putPart(writer, kept, 0, kept.size());
  }

  public int putRow(int writer, int row, int from, int many)
      throws IndexOutOfBoundsException, IllegalArgumentException {
    needOpen(writer);
    Signs signs = rowAt(row);
    needWithin(from, 0, OPEN_LENGTH);
    needWithin(many, 0, TEXT_LENGTH);
    if (from + many > signs.size()) {
      return notDone();
    }
    return putPart(writer, signs, from, from + many);
  }

  public int pour(int source, int writer) throws IndexOutOfBoundsException {
    Signs poured = shownBy(source);
    needOpen(writer);
    return putPart(writer, poured, 0, poured.size());
  }

  // ==== what is done to the leaf of a sheet

  public int insert(int sheet, int place, int seed, int from, int many)
      throws IndexOutOfBoundsException, IllegalArgumentException {
    Sheet changed = sheetAt(sheet);
    needPlace(place);
    needPartOfText(seed, from, many);
    if (from + many > TEXT_LENGTH) {
      return notDone();
    }
    loadText(seed, from, many);
    return insertPiece(changed, place);
  }

  public int insertNumber(int sheet, int place, int number)
      throws IndexOutOfBoundsException, IllegalArgumentException {
    Sheet changed = sheetAt(sheet);
    needPlace(place);
    needWithin(number, -NUMBER_BOUND, NUMBER_BOUND);
    loadNumber(number);
    return insertPiece(changed, place);
  }

  public int cut(int sheet, int from, int to) throws IndexOutOfBoundsException {
    Sheet changed = sheetAt(sheet);
    needPlace(from);
    needPlace(to);
    int length = changed.shown().size();
    if (from > length || from > to) {
      return notDone();
    }
    changed.makeStep().removePart(from, to);
    return done(length - changed.shown().size());
  }

  public int cutAt(int sheet, int place) throws IndexOutOfBoundsException {
    Sheet changed = sheetAt(sheet);
    needPlace(place);
    if (place >= changed.shown().size()) {
      return notDone();
    }
    int sign = changed.shown().signOf(place);
    changed.makeStep().removePart(place, place + 1);
    return done(sign);
  }

  public int change(int sheet, int place, int letter)
      throws IndexOutOfBoundsException, IllegalArgumentException {
    Sheet changed = sheetAt(sheet);
    needPlace(place);
    needWithin(letter, 0, LETTERS - 1);
    if (place >= changed.shown().size()) {
      return notDone();
    }
    return done(changed.makeStep().replaceSign(place, signOfLetter(letter)) ? 1 : 0);
  }

  public int turn(int sheet) throws IndexOutOfBoundsException {
    Sheet changed = sheetAt(sheet);
    Signs before = changed.shown();
    Signs leaf = changed.makeStep();
    leaf.turnRound();
    return done(leaf.sameAs(before) ? 0 : 1);
  }

  public int toLength(int sheet, int length)
      throws IndexOutOfBoundsException, IllegalArgumentException {
    Sheet changed = sheetAt(sheet);
    needWithin(length, 0, OPEN_LENGTH);
    int before = changed.shown().size();
    Signs leaf = changed.makeStep();
    leaf.shorten(length);
    leaf.addMany(BLANK, length - before);
    return done(before);
  }

  public int undo(int sheet, int many)
      throws IndexOutOfBoundsException, IllegalArgumentException {
    Sheet changed = sheetAt(sheet);
    needWithin(many, 1, STEPS_KEPT);
    int taken = changed.takeBack(many);
    return taken == 0 ? notDone() : done(taken);
  }

  public int redo(int sheet, int many)
      throws IndexOutOfBoundsException, IllegalArgumentException {
    Sheet changed = sheetAt(sheet);
    needWithin(many, 1, STEPS_KEPT);
    int again = changed.doAgain(many);
    return again == 0 ? notDone() : done(again);
  }

  // ==== rolls

  public int reset(int roll) throws IndexOutOfBoundsException {
    Roll emptied = rollAt(roll);
    int before = emptied.signs.size();
    emptied.signs.clear();
    emptied.marked = 0;
    return done(before);
  }

  public int mark(int roll) throws IndexOutOfBoundsException {
    Roll marked = rollAt(roll);
    marked.marked = marked.signs.size();
    return done(marked.marked);
  }

  public int back(int roll) throws IndexOutOfBoundsException {
    Roll shortened = rollAt(roll);
    int before = shortened.signs.size();
    shortened.signs.shorten(shortened.marked);
    return done(before - shortened.signs.size());
  }

  // ==== texts and rows that are taken out

  public int keep(int slot, int writer) throws IndexOutOfBoundsException {
    Signs kept = slotAt(slot);
    Signs shown = shownBy(writer);
    int answer = kept.sameAs(shown) ? 0 : 1;
    kept.becomeLike(shown);
    return done(answer);
  }

  public int keepPart(int slot, int writer, int from, int to)
      throws IndexOutOfBoundsException, IllegalArgumentException {
    Signs kept = slotAt(slot);
    Signs shown = shownBy(writer);
    needWithin(from, 0, OPEN_LENGTH);
    needWithin(to, 0, OPEN_LENGTH);
    if (from > to || to > shown.size()) {
      return notDone();
    }
    kept.clear();
    kept.addPart(shown, from, to);
    return done(kept.size());
  }

  public int takeRow(int row, int writer) throws IndexOutOfBoundsException {
    Signs signs = rowAt(row);
    signs.becomeLike(shownBy(writer));
    return done(signs.size());
  }

  public int changeRow(int row, int place, int letter)
      throws IndexOutOfBoundsException, IllegalArgumentException {
    Signs signs = rowAt(row);
    needPlace(place);
    needWithin(letter, 0, LETTERS - 1);
    if (place >= signs.size()) {
      return notDone();
    }
    return done(signs.replaceSign(place, signOfLetter(letter)) ? 1 : 0);
  }

  // ==== presses

  public int begin(int press, int width, int indent)
      throws IndexOutOfBoundsException, IllegalArgumentException {
    Press begun = pressAt(press);
    needSetting(width, indent);
    int before = begun.page.size();
    begun.startAnew(width, indent);
    return done(before);
  }

  public int feed(int press, int seed, int from, int many, int door)
      throws IndexOutOfBoundsException, IllegalArgumentException {
    Press fed = pressAt(press);
    needPartOfText(seed, from, many);
    needDoor(door);
    if (from + many > TEXT_LENGTH) {
      return notDone();
    }
    loadText(seed, from, many);
    return feedSigns(fed, piece);
  }

  public int feedLetter(int press, int letter, int door)
      throws IndexOutOfBoundsException, IllegalArgumentException {
    Press fed = pressAt(press);
    needWithin(letter, 0, LETTERS - 1);
    needDoor(door);
    piece.clear();
    piece.addSign(signOfLetter(letter));
    return feedSigns(fed, piece);
  }

  public int feedKept(int press, int slot, int door)
      throws IndexOutOfBoundsException, IllegalArgumentException {
    Press fed = pressAt(press);
    Signs kept = slotAt(slot);
    needDoor(door);
    return feedSigns(fed, kept);
  }

  // ==== what is asked
  // All ways of asking (how) are promised to tell the same, so one way serves them all.

  public String text(int writer, int how)
      throws IndexOutOfBoundsException, IllegalArgumentException {
    Signs shown = shownBy(writer);
    needWithin(how, 0, 2);
    return shown.asText();
  }

  public int length(int writer, int how)
      throws IndexOutOfBoundsException, IllegalArgumentException {
    Signs shown = shownBy(writer);
    needWithin(how, 0, 1);
    return shown.size();
  }

  public int signAt(int writer, int place) throws IndexOutOfBoundsException {
    Signs shown = shownBy(writer);
    needPlace(place);
    return shown.signOf(place);
  }

  public int order(int writer, int other) throws IndexOutOfBoundsException {
    return shownBy(writer).orderTo(shownBy(other));
  }

  public int find(int writer, int slot, boolean isLast) throws IndexOutOfBoundsException {
    Signs shown = shownBy(writer);
    Signs sought = slotAt(slot);
    return isLast ? shown.lastPlaceOf(sought) : shown.firstPlaceOf(sought);
  }

  public String turned(int writer) throws IndexOutOfBoundsException {
    piece.becomeLike(shownBy(writer));
    piece.turnRound();
    return piece.asText();
  }

  public String joined(int first, int second, int third, boolean isLeft)
      throws IndexOutOfBoundsException {
    needOpen(first);
    needOpen(second);
    needOpen(third);
    piece.becomeLike(shownBy(first));
    piece.addAll(shownBy(second));
    piece.addAll(shownBy(third));
    return piece.asText();
  }

  public String keptText(int slot) throws IndexOutOfBoundsException {
    return slotAt(slot).asText();
  }

  public boolean isKept(int slot, int writer) throws IndexOutOfBoundsException {
    return slotAt(slot).sameAs(shownBy(writer));
  }

  public String rowText(int row) throws IndexOutOfBoundsException {
    return rowAt(row).asText();
  }

  public int steps(int sheet, boolean isBack) throws IndexOutOfBoundsException {
    Sheet asked = sheetAt(sheet);
    return isBack ? asked.stepsAhead : asked.stepsBehind;
  }

  public int markOf(int roll) throws IndexOutOfBoundsException {
    return rollAt(roll).marked;
  }

  public String wouldSet(int slot, int width, int indent)
      throws IndexOutOfBoundsException, IllegalArgumentException {
    Signs kept = slotAt(slot);
    needSetting(width, indent);
    sparePress.startAnew(width, indent);
    sparePress.takeAll(kept);
    sparePress.takeSign(SPACE);
    return sparePress.page.asText();
  }

  public String line(int press, int number)
      throws IndexOutOfBoundsException, IllegalArgumentException {
    Press asked = pressAt(press);
    needWithin(number, 0, OPEN_LENGTH);
    return asked.lineText(number);
  }

  public String word(int press) throws IndexOutOfBoundsException {
    return pressAt(press).word.asText();
  }

  public int pressNumber(int press, int what)
      throws IndexOutOfBoundsException, IllegalArgumentException {
    Press asked = pressAt(press);
    needWithin(what, 0, PRESS_NUMBERS - 1);
    switch (what) {
      case 0:
        return asked.width;
      case 1:
        return asked.indent;
      case 2:
        return asked.column();
      case 3:
        return asked.gap;
      case 4:
        return asked.word.size();
      case 5:
        return asked.fed.size();
      default:
        return asked.lineCount();
    }
  }

  // ==== the whole

  public int house(int what) throws IllegalArgumentException {
    needWithin(what, 0, 2);
    if (what == 0) {
      return actsDone;
    }
    return what == 1 ? actsNotDone : knocks;
  }

  public int knock() {
    knocks++;
    return knocks;
  }

  public boolean isSound() {
    for (int writer = 0; writer < WRITERS; writer++) {
      if (!isWriterSound(writer)) {
        return false;
      }
    }
    for (int i = 0; i < sheets.length; i++) {
      if (!isSheetSound(sheets[i])) {
        return false;
      }
    }
    for (int i = 0; i < rolls.length; i++) {
      if (rolls[i].marked > rolls[i].signs.size()) {
        return false;
      }
    }
    for (int i = 0; i < presses.length; i++) {
      if (!isPressSound(presses[i])) {
        return false;
      }
    }
    return true;
  }

  public long digest() {
    long sum = DIGEST_START;
    for (int writer = 0; writer < WRITERS; writer++) {
      sum = withLengthAndSigns(sum, shownBy(writer));
    }
    for (int i = 0; i < slots.length; i++) {
      sum = withLengthAndSigns(sum, slots[i]);
    }
    for (int i = 0; i < rows.length; i++) {
      sum = withLengthAndSigns(sum, rows[i]);
    }
    for (int i = 0; i < sheets.length; i++) {
      sum = withNumber(sum, sheets[i].stepsBehind);
      sum = withNumber(sum, sheets[i].stepsAhead);
    }
    for (int i = 0; i < rolls.length; i++) {
      sum = withNumber(sum, rolls[i].marked);
    }
    for (int press = 0; press < PRESSES; press++) {
      sum = withPress(sum, press);
    }
    sum = withNumber(sum, actsDone);
    sum = withNumber(sum, actsNotDone);
    sum = withNumber(sum, knocks);
    return withNumber(sum, isSound() ? 1 : 0);
  }

  // ==== what the face needs

  private int done(int answer) {
    actsDone++;
    return answer;
  }

  private int notDone() {
    actsNotDone++;
    return NOT_DONE;
  }

  private Sheet sheetAt(int sheet) {
    if (sheet < 0 || sheet >= sheets.length) {
      throw new IndexOutOfBoundsException("there is no such sheet");
    }
    return sheets[sheet];
  }

  private Roll rollAt(int roll) {
    if (roll < SHEETS || roll - SHEETS >= rolls.length) {
      throw new IndexOutOfBoundsException("there is no such roll");
    }
    return rolls[roll - SHEETS];
  }

  private Press pressAt(int press) {
    if (press < 0 || press >= presses.length) {
      throw new IndexOutOfBoundsException("there is no such press");
    }
    return presses[press];
  }

  private Signs slotAt(int slot) {
    if (slot < 0 || slot >= slots.length) {
      throw new IndexOutOfBoundsException("there is no such slot");
    }
    return slots[slot];
  }

  private Signs rowAt(int row) {
    if (row < 0 || row >= rows.length) {
      throw new IndexOutOfBoundsException("there is no such row");
    }
    return rows[row];
  }

  private Signs shownBy(int writer) {
    if (writer < 0 || writer >= WRITERS) {
      throw new IndexOutOfBoundsException("there is no such writer");
    }
    if (writer < SHEETS) {
      return sheetAt(writer).shown();
    }
    if (writer < OPEN_WRITERS) {
      return rollAt(writer).signs;
    }
    return pressAt(writer - OPEN_WRITERS).page;
  }

  private static void needOpen(int writer) {
    if (writer < 0 || writer >= OPEN_WRITERS) {
      throw new IndexOutOfBoundsException("there is no such open writer");
    }
  }

  private static void needPlace(int place) {
    if (place < 0 || place > OPEN_LENGTH) {
      throw new IndexOutOfBoundsException("a place is not 0 to 120");
    }
  }

  private static void needWithin(int number, int least, int most) {
    if (number < least || number > most) {
      throw new IllegalArgumentException("a number is out of its bounds");
    }
  }

  private static void needPartOfText(int seed, int from, int many) {
    needWithin(seed, 0, LETTERS - 1);
    needWithin(from, 0, TEXT_LENGTH);
    needWithin(many, 0, TEXT_LENGTH);
  }

  private static void needDoor(int door) {
    needWithin(door, 0, DOORS - 1);
  }

  private static void needSetting(int width, int indent) {
    needWithin(width, 4, 20);
    needWithin(indent, 0, 3);
  }

  private static int signOfLetter(int letter) {
    if (letter < 26) {
      return LETTER_A + letter;
    }
    if (letter < 29) {
      return SPACE;
    }
    return letter == 29 ? COMMA : SLASH;
  }

  private void loadText(int seed, int from, int many) {
    piece.clear();
    for (int place = from; place < from + many; place++) {
      piece.addSign(signOfLetter((seed + 5 * place) % LETTERS));
    }
  }

  private void loadNumber(int number) {
    piece.clear();
    if (number < 0) {
      piece.addSign(MINUS);
    }
    int rest = Math.abs(number);
    for (int unit = 1000; unit >= 1; unit /= 10) {
      if (rest >= unit || unit == 1) {
        piece.addSign(DIGIT_0 + rest / unit % 10);
      }
    }
  }

  private int putPart(int writer, Signs source, int from, int to) {
    if (shownBy(writer).size() + to - from > OPEN_LENGTH) {
      return notDone();
    }
    Signs target = writer < SHEETS ? sheetAt(writer).makeStep() : shownBy(writer);
    target.addPart(source, from, to);
    return done(target.size());
  }

  private int insertPiece(Sheet sheet, int place) {
    int length = sheet.shown().size();
    if (place > length || length + piece.size() > OPEN_LENGTH) {
      return notDone();
    }
    Signs leaf = sheet.makeStep();
    leaf.insertAll(place, piece);
    return done(leaf.size());
  }

  private int feedSigns(Press press, Signs source) {
    if (press.fed.size() + source.size() > FED_LENGTH) {
      return notDone();
    }
    press.takeAll(source);
    return done(press.page.size());
  }

  private boolean isWriterSound(int writer) {
    Signs shown = shownBy(writer);
    if (writer < OPEN_WRITERS && shown.size() > OPEN_LENGTH) {
      return false;
    }
    piece.becomeLike(shown);
    return piece.sameAs(shown);
  }

  private boolean isSheetSound(Sheet sheet) {
    spareSheet.becomeLike(sheet);
    int behind = spareSheet.stepsBehind;
    for (int i = 0; i < behind; i++) {
      spareSheet.takeBack(1);
    }
    for (int i = 0; i < behind; i++) {
      spareSheet.doAgain(1);
    }
    return spareSheet.shown().sameAs(sheet.shown());
  }

  private boolean isPressSound(Press press) {
    sparePress.startAnew(press.width, press.indent);
    for (int i = 0; i < press.fed.size(); i++) {
      sparePress.takeSign(press.fed.signOf(i));
    }
    return sparePress.page.sameAs(press.page)
        && sparePress.word.sameAs(press.word)
        && press.areLinesSound();
  }

  private static long withNumber(long sum, long number) {
    return sum * 31L + number;
  }

  private static long withSigns(long sum, Signs signs) {
    long result = sum;
    for (int i = 0; i < signs.size(); i++) {
      result = withNumber(result, signs.signOf(i));
    }
    return result;
  }

  private static long withLengthAndSigns(long sum, Signs signs) {
    return withSigns(withNumber(sum, signs.size()), signs);
  }

  private long withPress(long sum, int press) {
    long result = sum;
    for (int what = 0; what < PRESS_NUMBERS; what++) {
      result = withNumber(result, pressNumber(press, what));
    }
    return withSigns(result, pressAt(press).word);
  }

  /** Signs one behind the other; what its room cannot hold is left out, so no index goes astray. */
  private static final class Signs {
    private final int[] signs;
    private int count;

    Signs(int room) {
      signs = new int[Math.max(room, 0)];
    }

    int size() {
      return count;
    }

    int signOf(int place) {
      return place >= 0 && place < count && place < signs.length ? signs[place] : NOT_DONE;
    }

    void clear() {
      count = 0;
    }

    void addSign(int sign) {
      if (count < signs.length) {
        signs[count] = sign;
        count++;
      }
    }

    void addMany(int sign, int many) {
      for (int i = 0; i < many; i++) {
        addSign(sign);
      }
    }

    void addPart(Signs source, int from, int to) {
      int many = Math.min(to, source.count) - from;
      if (from < 0 || many <= 0 || many > signs.length - count) {
        return;
      }
      System.arraycopy(source.signs, from, signs, count, many);
      count += many;
    }

    void addAll(Signs source) {
      addPart(source, 0, source.count);
    }

    void becomeLike(Signs source) {
      clear();
      addAll(source);
    }

    void insertAll(int place, Signs source) {
      int many = source.count;
      if (place < 0 || place > count || many > signs.length - count) {
        return;
      }
      System.arraycopy(signs, place, signs, place + many, count - place);
      System.arraycopy(source.signs, 0, signs, place, many);
      count += many;
    }

    void removePart(int from, int to) {
      int end = Math.min(to, count);
      if (from < 0 || from >= end) {
        return;
      }
      System.arraycopy(signs, end, signs, from, count - end);
      count -= end - from;
    }

    void shorten(int length) {
      if (length >= 0 && length < count) {
        count = length;
      }
    }

    boolean replaceSign(int place, int sign) {
      if (place < 0 || place >= count || place >= signs.length) {
        return false;
      }
      boolean isOther = signs[place] != sign;
      signs[place] = sign;
      return isOther;
    }

    void turnRound() {
      int right = count - 1;
      for (int left = 0; left < right && right < signs.length; left++) {
        int sign = signs[left];
        signs[left] = signs[right];
        signs[right] = sign;
        right--;
      }
    }

    boolean sameAs(Signs other) {
      return orderTo(other) == 0;
    }

    int orderTo(Signs other) {
      int shared = Math.min(count, other.count);
      for (int i = 0; i < shared; i++) {
        if (signOf(i) != other.signOf(i)) {
          return signOf(i) < other.signOf(i) ? -1 : 1;
        }
      }
      if (count == other.count) {
        return 0;
      }
      return count < other.count ? -1 : 1;
    }

    int firstPlaceOf(Signs sought) {
      for (int place = 0; place <= count - sought.count; place++) {
        if (hasAt(place, sought)) {
          return place;
        }
      }
      return -1;
    }

    int lastPlaceOf(Signs sought) {
      for (int place = count - sought.count; place >= 0; place--) {
        if (hasAt(place, sought)) {
          return place;
        }
      }
      return -1;
    }

    private boolean hasAt(int place, Signs sought) {
      for (int i = 0; i < sought.count; i++) {
        if (signOf(place + i) != sought.signOf(i)) {
          return false;
        }
      }
      return true;
    }

    String asText() {
      return partAsText(0, count);
    }

    String partAsText(int from, int to) {
      char[] characters = new char[Math.max(to - from, 0)];
      for (int i = 0; i < characters.length; i++) {
        characters[i] = (char) signOf(from + i);
      }
      return new String(characters);
    }
  }

  /** Keeps a text for each step that can be taken back or done again, in a ring of texts. */
  private static final class Sheet {
    private static final int STATES = STEPS_KEPT + 1;

    private final Signs[] states = new Signs[STATES];
    // Counts on without end; its remainder by the ring's length is the place of the shown text.
    private int now;
    private int stepsBehind;
    private int stepsAhead;

    Sheet() {
      for (int i = 0; i < states.length; i++) {
        states[i] = new Signs(OPEN_LENGTH);
      }
    }

    Signs shown() {
      return states[Math.floorMod(now, STATES)];
    }

    /** The text behind a new step, still as it was ahead of it, to be changed by the caller. */
    Signs makeStep() {
      Signs before = shown();
      now++;
      stepsBehind = Math.min(stepsBehind + 1, STEPS_KEPT);
      stepsAhead = 0;
      shown().becomeLike(before);
      return shown();
    }

    int takeBack(int many) {
      int taken = Math.min(many, stepsBehind);
      now -= taken;
      stepsBehind -= taken;
      stepsAhead += taken;
      return taken;
    }

    int doAgain(int many) {
      int again = Math.min(many, stepsAhead);
      now += again;
      stepsBehind += again;
      stepsAhead -= again;
      return again;
    }

    void becomeLike(Sheet source) {
      for (int i = 0; i < states.length && i < source.states.length; i++) {
        states[i].becomeLike(source.states[i]);
      }
      now = source.now;
      stepsBehind = source.stepsBehind;
      stepsAhead = source.stepsAhead;
    }
  }

  private static final class Roll {
    private final Signs signs = new Signs(OPEN_LENGTH);
    private int marked;
  }

  private static final class Press {
    private final Signs page;
    private final Signs word;
    private final Signs fed;
    private int width = FIRST_WIDTH;
    private int indent;
    private int gap;

    Press(int mostFed) {
      page = new Signs(PAGE_SIGNS_PER_FED * mostFed);
      word = new Signs(mostFed);
      fed = new Signs(mostFed);
    }

    void startAnew(int newWidth, int newIndent) {
      page.clear();
      word.clear();
      fed.clear();
      width = newWidth;
      indent = newIndent;
      gap = 0;
    }

    void takeAll(Signs source) {
      for (int i = 0; i < source.size(); i++) {
        takeSign(source.signOf(i));
      }
    }

    void takeSign(int sign) {
      fed.addSign(sign);
      if (sign == SLASH) {
        endWord();
        page.addSign(SLASH);
        gap = 0;
      } else if (sign == SPACE) {
        endWord();
        gap = Math.max(gap, 1);
      } else if (sign == COMMA) {
        endWord();
        gap = 2;
      } else {
        word.addSign(sign);
      }
    }

    private void endWord() {
      if (word.size() == 0) {
        return;
      }
      int column = column();
      int pad = gap == 2 ? TAB - column % TAB : 1;
      if (column == 0) {
        page.addMany(SPACE, indent);
      } else if (column + pad + word.size() <= width) {
        page.addMany(SPACE, pad);
      } else {
        page.addSign(SLASH);
        page.addMany(SPACE, indent);
      }
      page.addAll(word);
      word.clear();
      gap = 0;
    }

    int column() {
      int column = 0;
      for (int i = page.size() - 1; i >= 0 && page.signOf(i) != SLASH; i--) {
        column++;
      }
      return column;
    }

    int lineCount() {
      int lines = 1;
      for (int i = 0; i < page.size(); i++) {
        if (page.signOf(i) == SLASH) {
          lines++;
        }
      }
      return lines;
    }

    private boolean isLineEnd(int place) {
      return place == page.size() || page.signOf(place) == SLASH;
    }

    String lineText(int number) {
      int line = 0;
      int start = 0;
      for (int i = 0; i <= page.size(); i++) {
        if (isLineEnd(i)) {
          if (line == number) {
            return page.partAsText(start, i);
          }
          line++;
          start = i + 1;
        }
      }
      return "";
    }

    boolean areLinesSound() {
      int start = 0;
      for (int i = 0; i <= page.size(); i++) {
        if (isLineEnd(i)) {
          if (i - start > width && !isIndentedWord(start, i)) {
            return false;
          }
          start = i + 1;
        }
      }
      return true;
    }

    private boolean isIndentedWord(int start, int end) {
      for (int i = start; i < end; i++) {
        boolean isIndent = i - start < indent;
        if (isIndent != (page.signOf(i) == SPACE)) {
          return false;
        }
      }
      return true;
    }
  }
}
