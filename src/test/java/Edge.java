/**
 * Looks at one call at an edge of the document, on an object made for it alone, so that no object comes
 * to its 513th call. Where nothing may be changed, the object is compared with a twin that had no such call.
 */
final class Edge {
  /** Calls that bring a new object to the edge. */
  interface Setting {
    void on(Manydoors x);
  }

  /** The call that is looked at. */
  interface Call {
    Object on(Manydoors x);
  }

  static final Setting NEW = x -> { };

  private static final String INDEX = "java.lang.IndexOutOfBoundsException";
  private static final String ARGUMENT = "java.lang.IllegalArgumentException";

  private final Check check;

  Edge(Check check) {
    this.check = check;
  }

  private static Manydoors made(Setting setting) {
    Manydoors x = new Manydoors();
    setting.on(x);
    return x;
  }

  private static Object answer(Call call, Manydoors x) {
    try {
      return call.on(x);
    } catch (RuntimeException e) {
      return e.getClass().getName();
    }
  }

  /** The act answers so and is counted as one that was done. Gives the object behind it. */
  Manydoors done(String what, Setting setting, Call call, Object due) {
    Manydoors x = made(setting);
    int[] house = {x.house(0), x.house(1), x.house(2)};
    check.due(what, answer(call, x), due);
    check.due(what + ": acts that were done", x.house(0), house[0] + 1);
    check.due(what + ": acts that told -9", x.house(1), house[1]);
    check.due(what + ": knocks", x.house(2), house[2]);
    return x;
  }

  /** The act tells -9, and nothing is changed, but that it is counted. */
  void refused(String what, Setting setting, Call call) {
    Manydoors x = made(setting);
    Manydoors twin = made(setting);
    check.due(what, answer(call, x), -9);
    check.due(what + ": acts that were done", x.house(0), twin.house(0));
    check.due(what + ": acts that told -9", x.house(1), twin.house(1) + 1);
    check.due(what + ": all else", Whole.told(x), Whole.told(twin));
  }

  /** The call answers so and changes nothing; it is not counted, even if it tells -9. */
  void asked(String what, Setting setting, Call call, Object due) {
    Manydoors x = made(setting);
    Manydoors twin = made(setting);
    check.due(what, answer(call, x), due);
    for (int count = 0; count < 3; count++) {
      check.due(what + ": house of " + count, x.house(count), twin.house(count));
    }
    check.due(what + ": digest", x.digest(), twin.digest());
    check.due(what + ": all", Whole.told(x), Whole.told(twin));
  }

  void noIndex(String what, Setting setting, Call call) {
    asked(what, setting, call, INDEX);
  }

  void noArgument(String what, Setting setting, Call call) {
    asked(what, setting, call, ARGUMENT);
  }

  /** The call throws what is let in its place; kind is X for an index, A for another argument. */
  void thrown(String what, Setting setting, Call call, char kind) {
    asked(what, setting, call, kind == 'X' ? INDEX : ARGUMENT);
  }
}
