import java.math.BigInteger;

/** Promises 43 to 46 at their edges; each method stands for a sentence of the document. */
public final class WholeEdgesTest {
  private static final Check check = new Check("WholeEdgesTest");
  private static final Edge edge = new Edge(check);

  private static final Edge.Setting[] SETTINGS = {
    Edge.NEW,
    Filled::rich,
    WholeEdgesTest::full,
    WholeEdgesTest::allUnlike,
    x -> Filled.page(x, 0, 240),
    x -> Filled.slotOfPage(x, 3, 240),
    x -> Filled.rowOfPage(x, 1, 240),
    x -> x.toLength(2, 120)
  };

  public static void main(String[] args) {
    housesOfANewObject();
    housesCountEachOfThree();
    houseAtItsBounds();
    knocksAreNoActs();
    soundAlways();
    soundBehindEachEdge();
    digestStartsWith17704();
    digestOfEachNumberInItsOrder();
    digestWrapsAround();
    digestOfEachPart();
    check.finish();
  }

  /** All writers full, 12 steps, marks at 120, long slots and rows. */
  private static void full(Manydoors x) {
    for (int writer : Filled.OPEN) {
      Filled.open(x, writer, 120);
    }
    for (int sheet : Filled.SHEETS) {
      for (int i = 0; i < 13; i++) {
        x.turn(sheet);
      }
      x.undo(sheet, 1 + 4 * sheet);
    }
    for (int roll : Filled.ROLLS) {
      x.mark(roll);
    }
    x.begin(0, 20, 3);
    Filled.fed(x, 0, 96);
    Filled.page(x, 1, 240);
    for (int slot : Filled.SLOTS) {
      x.keep(slot, 4 + slot);
    }
    x.takeRow(0, 6);
    x.takeRow(1, 7);
    x.feedLetter(0, 0, 0);
  }

  /** The numbers of steps, marks, presses and the house are unlike, so that digest() tells their order. */
  private static void allUnlike(Manydoors x) {
    for (int sheet : Filled.SHEETS) {
      for (int i = 0; i < 4 + 3 * sheet; i++) {
        x.putLetter(sheet, i, 0);
      }
      x.undo(sheet, sheet + 1);
    }
    for (int roll : Filled.ROLLS) {
      Filled.open(x, roll, 10 + roll);
      x.mark(roll);
      x.putLetter(roll, 0, 0);
    }
    for (int slot : Filled.SLOTS) {
      x.keepPart(slot, 3, 0, slot + 1);
    }
    x.takeRow(0, 4);
    x.takeRow(1, 5);
    for (int press : Filled.PRESSES) {
      x.begin(press, 15 + press, 2 + press);
      Filled.fedWith(x, press, "abcdef//,kl".substring(0, 10 + press));
    }
    for (int i = 0; i < 21; i++) {
      x.knock();
      x.cut(0, 120, 0);
    }
    x.knock();
  }

  private static void housesOfANewObject() {
    for (int what = 0; what < 3; what++) {
      int asked = what;
      edge.asked("house of " + what, Edge.NEW, x -> x.house(asked), 0);
    }
  }

  /** 43: "0 how many ACTS were done (not those that told -9), 1 how often an ACT told -9, 2 how often one knocked". */
  private static void housesCountEachOfThree() {
    Manydoors x = new Manydoors();
    for (int i = 1; i <= 50; i++) {
      x.turn(0);
      x.redo(0, 1);
      x.cutAt(0, 0);
      x.knock();
      x.knock();
      x.knock();
      check.due("done", x.house(0), i);
      check.due("not done", x.house(1), 2 * i);
      check.due("knocks", x.house(2), 3 * i);
    }
    check.due("a throw", Check.thrownBy(() -> x.turn(3)), "java.lang.IndexOutOfBoundsException");
    check.due("done behind it", x.house(0), 50);
    check.due("not done behind it", x.house(1), 100);
  }

  /** 43: "if what is not 0 to 2". */
  private static void houseAtItsBounds() {
    edge.asked("house of 2", x -> x.knock(), x -> x.house(2), 1);
    edge.noArgument("house of 3", Filled::rich, x -> x.house(3));
    edge.noArgument("house of -1", Filled::rich, x -> x.house(-1));
  }

  /** 44: "Returns how often one knocked, with this." It changes nothing else. */
  private static void knocksAreNoActs() {
    Manydoors x = new Manydoors();
    Manydoors twin = new Manydoors();
    Filled.rich(x);
    Filled.rich(twin);
    for (int i = 2; i <= 20; i++) {
      check.due("knock " + i, x.knock(), i);
      check.due("house of knocks", x.house(2), i);
    }
    for (int i = 2; i <= 20; i++) {
      twin.knock();
    }
    check.due("acts", x.house(0), twin.house(0));
    check.due("all behind the knocks", Whole.told(x), Whole.told(twin));
    check.due("the first one", new Manydoors().knock(), 1);
  }

  /** 45: "true, always." */
  private static void soundAlways() {
    for (Edge.Setting setting : SETTINGS) {
      edge.asked("sound", setting, x -> x.isSound(), true);
    }
  }

  /** 45: ".. each line of a PAGE has at most WIDTH SIGNS, or no SPACE behind INDENT SPACES", and the like. */
  private static void soundBehindEachEdge() {
    for (int width = 4; width <= 20; width++) {
      for (int indent = 0; indent <= 3; indent++) {
        Manydoors x = new Manydoors();
        x.begin(0, width, indent);
        x.begin(1, width, indent);
        for (int seed = 0; seed < 4; seed++) {
          x.feed(0, seed + width, 0, 24, 0);
          check.due("sound while it is fed", x.isSound(), true);
        }
        x.toLength(0, 40);
        x.keep(0, 0);
        x.feedKept(1, 0, 0);
        Filled.fedWith(x, 1, " ab,c/d ,e");
        check.due("sound with a long word", x.isSound(), true);
      }
    }
    Manydoors x = new Manydoors();
    full(x);
    for (int sheet : Filled.SHEETS) {
      x.undo(sheet, 12);
      check.due("sound behind undo", x.isSound(), true);
      x.redo(sheet, 12);
      check.due("sound behind redo", x.isSound(), true);
    }
    for (int roll : Filled.ROLLS) {
      x.back(roll);
      x.reset(roll);
      check.due("sound behind reset", x.isSound(), true);
    }
  }

  /** 46: all that digest() takes in, in the order that promise 46 names. */
  private static int[] numbers(Manydoors x) {
    StringBuilder all = new StringBuilder();
    for (int writer : Filled.WRITERS) {
      all.append((char) x.length(writer, 0)).append(x.text(writer, 0));
    }
    for (int slot : Filled.SLOTS) {
      all.append((char) x.keptText(slot).length()).append(x.keptText(slot));
    }
    for (int row : Filled.ROWS) {
      all.append((char) x.rowText(row).length()).append(x.rowText(row));
    }
    for (int sheet : Filled.SHEETS) {
      all.append((char) x.steps(sheet, false)).append((char) x.steps(sheet, true));
    }
    for (int roll : Filled.ROLLS) {
      all.append((char) x.markOf(roll));
    }
    for (int press : Filled.PRESSES) {
      for (int what = 0; what < 7; what++) {
        all.append((char) x.pressNumber(press, what));
      }
      all.append(x.word(press));
    }
    for (int what = 0; what < 3; what++) {
      all.append((char) x.house(what));
    }
    return all.append(x.isSound() ? (char) 1 : (char) 0).chars().toArray();
  }

  private static BigInteger unbounded(int[] numbers) {
    BigInteger d = BigInteger.valueOf(17704);
    for (int v : numbers) {
      d = d.multiply(BigInteger.valueOf(31)).add(BigInteger.valueOf(v));
    }
    return d;
  }

  /** 46: "A number d starts with 17704". On a new object all numbers but four are 0. */
  private static void digestStartsWith17704() {
    int[] due = new int[8 + 4 + 2 + 6 + 3 + 14 + 3 + 1];
    due[23] = 12;
    due[29] = 1;
    due[30] = 12;
    due[36] = 1;
    due[40] = 1;
    edge.asked("of a new object", Edge.NEW, x -> x.digest(), unbounded(due).longValue());
  }

  /** 46: "for each v in this order". */
  private static void digestOfEachNumberInItsOrder() {
    for (int i = 0; i < SETTINGS.length; i++) {
      Manydoors x = new Manydoors();
      SETTINGS[i].on(x);
      check.due("digest " + i, x.digest(), unbounded(numbers(x)).longValue());
    }
  }

  /** 46: "which wraps around as a 64-bit integer". */
  private static void digestWrapsAround() {
    boolean isBelow0 = false;
    boolean isAbove0 = false;
    for (int knocks = 0; knocks < 3; knocks++) {
      for (Edge.Setting setting : SETTINGS) {
        Manydoors x = new Manydoors();
        setting.on(x);
        for (int i = 0; i < knocks; i++) {
          x.knock();
        }
        BigInteger d = unbounded(numbers(x));
        BigInteger turns = BigInteger.ONE.shiftLeft(64);
        BigInteger rest = d.mod(turns);
        BigInteger due = rest.testBit(63) ? rest.subtract(turns) : rest;
        check.due("it is beyond 64 binary digits", d.bitLength() > 64, true);
        check.due("digest", BigInteger.valueOf(x.digest()), due);
        isBelow0 |= due.signum() < 0;
        isAbove0 |= due.signum() > 0;
      }
    }
    check.due("some are below 0", isBelow0, true);
    check.due("some are above 0", isAbove0, true);
  }

  /** 46: each part counts: two objects that are unlike in it alone have other digests. */
  private static void digestOfEachPart() {
    Edge.Call[] acts = {
      x -> x.putLetter(0, 0, 0),
      x -> x.putLetter(5, 0, 0),
      x -> x.feedLetter(0, 30, 0),
      x -> x.feedLetter(1, 30, 0),
      x -> x.keep(0, 2),
      x -> x.keep(3, 2),
      x -> x.takeRow(0, 2),
      x -> x.takeRow(1, 2),
      x -> x.turn(0),
      x -> x.turn(1),
      x -> x.undo(2, 1),
      x -> x.mark(3),
      x -> x.mark(5),
      x -> x.begin(0, 13, 0),
      x -> x.begin(1, 12, 1),
      x -> x.feedLetter(0, 26, 0),
      x -> x.feedLetter(1, 29, 0),
      x -> x.feedLetter(0, 5, 0),
      x -> x.feedLetter(1, 5, 0),
      x -> x.back(3)
    };
    for (int one = 0; one < acts.length; one++) {
      for (int other = 0; other < one; other++) {
        Manydoors x = forDigest();
        Manydoors y = forDigest();
        acts[one].on(x);
        acts[other].on(y);
        check.due("acts " + one + " and " + other, x.digest() == y.digest(), false);
      }
    }
  }

  private static Manydoors forDigest() {
    Manydoors x = new Manydoors();
    Filled.open(x, 2, 2);
    Filled.open(x, 3, 2);
    Filled.open(x, 5, 2);
    return x;
  }
}
