/** Promises 43 to 46: the whole. */
public final class WholeTest {
  private static final Check check = new Check("WholeTest");

  public static void main(String[] args) {
    houses();
    knocks();
    digestOfANewObject();
    digestTellsEveryPart();
    soundWhenFull();
    check.finish();
  }

  private static void houses() {
    Manydoors x = new Manydoors();
    x.putText(0, 0, 0, 5, 0);
    x.turn(0);
    x.turn(0);
    x.undo(0, 2);
    x.redo(0, 12);
    x.mark(3);
    x.begin(0, 4, 0);
    check.due("acts, undo of several is one", x.house(0), 7);
    x.cut(0, 6, 6);
    x.putText(0, 0, 24, 1, 0);
    check.due("acts not done", x.house(1), 2);
    check.due("a -9 of what is asked", x.signAt(0, 5), -9);
    check.due("it is not counted", x.house(1), 2);
    check.due("acts still", x.house(0), 7);
    check.due("knocks", x.house(2), 0);
  }

  private static void knocks() {
    Manydoors x = new Manydoors();
    check.due("first", x.knock(), 1);
    check.due("second", x.knock(), 2);
    check.due("house of knocks", x.house(2), 2);
    check.due("a knock is no act", x.house(0) + x.house(1), 0);
    check.due("another object", new Manydoors().knock(), 1);
  }

  private static void digestOfANewObject() {
    int[] zerosAheadOfPresses = new int[8 + 4 + 2 + 6 + 3];
    long d = 17704;
    for (int zero : zerosAheadOfPresses) {
      d = d * 31 + zero;
    }
    for (int press = 0; press < 2; press++) {
      for (int v : new int[] {12, 0, 0, 0, 0, 0, 1}) {
        d = d * 31 + v;
      }
    }
    for (int v : new int[] {0, 0, 0, 1}) {
      d = d * 31 + v;
    }
    check.due("digest of a new object", new Manydoors().digest(), d);
  }

  /** Two objects that differ in one part alone have other digests. */
  private static void digestTellsEveryPart() {
    Manydoors[] others = new Manydoors[9];
    for (int i = 0; i < others.length; i++) {
      others[i] = new Manydoors();
      others[i].putText(0, 0, 0, 2, 0);
      others[i].turn(0);
      others[i].turn(0);
      others[i].putText(3, 1, 0, 2, 0);
      others[i].feedLetter(0, i == 1 ? 1 : 0, 0);
    }
    others[2].knock();
    others[3].undo(0, 2);
    others[4].mark(3);
    others[5].keep(0, 0);
    others[6].takeRow(0, 0);
    others[7].begin(1, 12, 1);
    others[8].signAt(0, 0);
    for (int i = 1; i < 8; i++) {
      check.due("digest " + i + " is another", others[i].digest() == others[0].digest(), false);
    }
    check.due("digest of the same", others[8].digest(), others[0].digest());
    check.due("digest twice", others[0].digest(), others[8].digest());
  }

  private static void soundWhenFull() {
    Manydoors x = new Manydoors();
    for (int writer = 0; writer < 6; writer++) {
      for (int seed = 0; seed < 5; seed++) {
        x.putText(writer, 6 * seed + writer, 0, 24, seed);
      }
    }
    for (int sheet = 0; sheet < 3; sheet++) {
      for (int place = 0; place < 20; place++) {
        x.cutAt(sheet, place);
      }
      x.undo(sheet, 5);
    }
    x.mark(3);
    x.mark(4);
    x.reset(4);
    for (int press = 0; press < 2; press++) {
      x.begin(press, 4 + 9 * press, 3);
      for (int seed = 0; seed < 4; seed++) {
        x.feed(press, 7 * seed, 0, 24, seed);
      }
      x.keep(press, 6 + press);
      x.takeRow(press, 6 + press);
    }
    check.due("sound", x.isSound(), true);
    long digest = x.digest();
    check.due("sound again", x.isSound(), true);
    check.due("the same digest", x.digest(), digest);
  }
}
