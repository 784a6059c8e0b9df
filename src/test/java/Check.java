import java.util.Objects;

/** Counts what is not as due, and tells it; each test makes one and ends with finish(). */
final class Check {
  /** A call of the face, its answer left aside or given back. */
  interface Call {
    Object run();
  }

  private final String test;
  private int wrong;
  private int looked;

  Check(String test) {
    this.test = test;
  }

  void due(String what, Object got, Object want) {
    looked++;
    if (!Objects.equals(got, want)) {
      wrong++;
      System.out.println(test + ": " + what + " answered " + got + ", due is " + want);
    }
  }

  static String thrownBy(Call call) {
    try {
      call.run();
      return "nothing";
    } catch (RuntimeException e) {
      return e.getClass().getName();
    }
  }

  /** The act answers as is due and is counted as done. */
  void act(Manydoors x, String what, Call call, int want) {
    counted(x, what, call, want, 1, 0);
  }

  /** The act tells -9 and changes nothing, but that it is counted as not done. */
  void notDone(Manydoors x, String what, Call call) {
    String before = stateOf(x);
    counted(x, what, call, -9, 0, 1);
    due("all behind " + what, stateOf(x), before);
  }

  private void counted(Manydoors x, String what, Call call, int want, int done, int notDone) {
    int doneBefore = x.house(0);
    int notDoneBefore = x.house(1);
    due(what, call.run(), want);
    due("house(0) behind " + what, x.house(0) - doneBefore, done);
    due("house(1) behind " + what, x.house(1) - notDoneBefore, notDone);
  }

  /** All that an object tells of itself, but how many acts it counted. */
  static String stateOf(Manydoors x) {
    StringBuilder all = new StringBuilder();
    for (int writer = 0; writer < 8; writer++) {
      all.append(x.text(writer, 0)).append('|');
    }
    for (int slot = 0; slot < 4; slot++) {
      all.append(x.keptText(slot)).append('|');
    }
    for (int row = 0; row < 2; row++) {
      all.append(x.rowText(row)).append('|');
    }
    for (int three = 0; three < 3; three++) {
      all.append(x.steps(three, false)).append('|').append(x.steps(three, true)).append('|');
      all.append(x.markOf(three + 3)).append('|');
    }
    for (int press = 0; press < 2; press++) {
      for (int what = 0; what < 7; what++) {
        all.append(x.pressNumber(press, what)).append('|');
      }
      all.append(x.word(press)).append('|');
    }
    return all.append(x.house(2)).toString();
  }

  /** Ends the program, with 1 if anything was not as due. */
  void finish() {
    System.out.println(test + ": " + looked + " looked at, " + wrong + " not as due");
    System.exit(wrong == 0 && looked > 0 ? 0 : 1);
  }
}
