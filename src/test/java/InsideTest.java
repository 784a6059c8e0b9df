import java.lang.reflect.Array;
import java.lang.reflect.Field;
import java.lang.reflect.Method;

/**
 * Promise 45 where it would be false: no run of calls comes there, so this test spoils the state by hand.
 * It alone knows how the class holds its state; it changes with that.
 */
public final class InsideTest {
  private static final Check check = new Check("InsideTest");

  public static void main(String[] args) throws ReflectiveOperationException {
    openLengthAt120And121();
    markAtAndAboveTheLength();
    otherPageOrWord();
    otherFedOrSetting();
    linesAtWidthAndLonger();
    digestTellsWhatIsNotSound();
    check.finish();
  }

  private static Field field(Object owner, String name) throws ReflectiveOperationException {
    Field field = owner.getClass().getDeclaredField(name);
    field.setAccessible(true);
    return field;
  }

  private static Object held(Object owner, String name) throws ReflectiveOperationException {
    return field(owner, name).get(owner);
  }

  private static Object heldAt(Object owner, String name, int index) throws ReflectiveOperationException {
    return Array.get(held(owner, name), index);
  }

  private static void put(Object owner, String name, int number) throws ReflectiveOperationException {
    field(owner, name).setInt(owner, number);
  }

  private static Object called(Object owner, String name, Object... arguments) throws ReflectiveOperationException {
    for (Method method : owner.getClass().getDeclaredMethods()) {
      if (method.getName().equals(name)) {
        method.setAccessible(true);
        return method.invoke(owner, arguments);
      }
    }
    throw new IllegalStateException("no method " + name);
  }

  /** The signs that an open writer shows. */
  private static Object open(Manydoors x, int writer) throws ReflectiveOperationException {
    return writer < 3
        ? called(heldAt(x, "sheets", writer), "shown")
        : held(heldAt(x, "rolls", writer - 3), "signs");
  }

  /** "that of an OPEN one is at most 120". */
  private static void openLengthAt120And121() throws ReflectiveOperationException {
    for (int writer : Filled.OPEN) {
      Manydoors x = new Manydoors();
      Filled.open(x, writer, 119);
      put(open(x, writer), "count", 120);
      check.due("writer " + writer + " of 120", x.isSound(), true);
      put(open(x, writer), "count", 121);
      check.due("writer " + writer + " of 121", x.isSound(), false);
    }
  }

  /** "no MARK is above its ROLL's LENGTH". */
  private static void markAtAndAboveTheLength() throws ReflectiveOperationException {
    for (int roll : Filled.ROLLS) {
      for (int length : new int[] {0, 7, 120}) {
        Manydoors x = new Manydoors();
        Filled.open(x, roll, length);
        put(heldAt(x, "rolls", roll - 3), "marked", length);
        check.due("mark at the length", x.isSound(), true);
        put(heldAt(x, "rolls", roll - 3), "marked", length + 1);
        check.due("mark above the length", x.isSound(), false);
      }
    }
  }

  private static Manydoors fed(int press) {
    Manydoors x = new Manydoors();
    Filled.fedWith(x, press, "ab,cd ef/g hi");
    return x;
  }

  /** "a PRESS that begins anew, .. and is fed the same FED at once, has the same PAGE and WORD". */
  private static void otherPageOrWord() throws ReflectiveOperationException {
    for (int press : Filled.PRESSES) {
      for (String part : new String[] {"page", "word"}) {
        Manydoors x = fed(press);
        check.due("as it was fed", x.isSound(), true);
        Object signs = held(heldAt(x, "presses", press), part);
        called(signs, "replaceSign", 0, (int) 'z');
        check.due("another sign in the " + part, x.isSound(), false);
        Manydoors y = fed(press);
        called(held(heldAt(y, "presses", press), part), "addSign", (int) 'z');
        check.due("one more sign in the " + part, y.isSound(), false);
      }
    }
  }

  private static void otherFedOrSetting() throws ReflectiveOperationException {
    for (int press : Filled.PRESSES) {
      Manydoors x = fed(press);
      called(held(heldAt(x, "presses", press), "fed"), "replaceSign", 0, (int) 'z');
      check.due("another sign was fed", x.isSound(), false);
      for (String setting : new String[] {"width", "indent"}) {
        Manydoors y = fed(press);
        put(heldAt(y, "presses", press), setting, 4);
        check.due("another " + setting, y.isSound(), false);
      }
    }
  }

  private static void linesDue(String page, int width, int indent, boolean due) throws ReflectiveOperationException {
    Object press = heldAt(new Manydoors(), "presses", 0);
    for (char sign : page.toCharArray()) {
      called(held(press, "page"), "addSign", (int) sign);
    }
    put(press, "width", width);
    put(press, "indent", indent);
    check.due(width + ", " + indent + ": " + page, called(press, "areLinesSound"), due);
  }

  /** "each line of a PAGE has at most WIDTH SIGNS, or no SPACE behind INDENT SPACES". */
  private static void linesAtWidthAndLonger() throws ReflectiveOperationException {
    linesDue("", 4, 0, true);
    linesDue("a bc", 4, 0, true);
    linesDue("a bcd", 4, 0, false);
    linesDue("abcd ", 4, 0, false);
    linesDue("abcde", 4, 0, true);
    linesDue("ab/a bcd", 4, 0, false);
    linesDue("a bcd/ab", 4, 0, false);
    linesDue("a bcd/", 4, 0, false);
    linesDue("a bc/a bc/abcdef", 4, 0, true);
    linesDue("  ab", 4, 2, true);
    linesDue("  abc", 4, 2, true);
    linesDue("  ab c", 4, 2, false);
    linesDue("   abc", 4, 2, false);
    linesDue("  a\0\0", 4, 2, true);
  }

  /** 46: "1 if isSound(), otherwise 0", as the last number. */
  private static void digestTellsWhatIsNotSound() throws ReflectiveOperationException {
    Manydoors x = fed(1);
    long sound = x.digest();
    called(held(heldAt(x, "presses", 1), "fed"), "replaceSign", 0, (int) 'z');
    check.due("the last number of digest()", sound - x.digest(), 1L);
  }
}
