import java.lang.reflect.InvocationTargetException;
import java.lang.reflect.Method;
import java.lang.reflect.Modifier;
import java.util.Arrays;
import java.util.TreeSet;

/**
 * The exceptions of promises 2 to 43, and what 'Terms' 6 says of them: of each argument the last values that
 * are let and the first ones that are not, which of several exceptions is thrown, that exceptions go ahead
 * of -9, and that a call that throws changes nothing and is not counted.
 */
public final class ArgumentsTest {
  // A method; for each argument what is thrown (X an index, A another argument) and its bounds, or a boolean;
  // arguments that Filled.rich() lets be done; arguments with which it tells -9.
  private static final String[] FACE = {
    "putLetter(X 0 5, A 0 31, A -3 3): 0 3 1: 1 3 1",
    "putText(X 0 5, A 0 31, A 0 24, A 0 24, A 0 6): 0 5 2 3 1: 0 5 20 20 1",
    "putText(X 0 5, A 0 31, A 0 24, A 0 24, A 0 6): 3 5 2 3 1: 4 5 2 3 1",
    "putKept(X 0 5, X 0 3, A 0 6): 0 0 2: 1 0 2",
    "putRow(X 0 5, X 0 1, A 0 120, A 0 24): 0 0 1 2: 0 0 120 24",
    "putRow(X 0 5, X 0 1, A 0 120, A 0 24): 3 1 90 20: 4 1 0 1",
    "pour(X 0 7, X 0 5): 3 0: 0 1",
    "insert(X 0 2, X 0 120, A 0 31, A 0 24, A 0 24): 0 1 5 2 3: 0 120 5 2 3",
    "insert(X 0 2, X 0 120, A 0 31, A 0 24, A 0 24): 0 0 5 0 3: 0 0 5 20 20",
    "insertNumber(X 0 2, X 0 120, A -9999 9999): 0 1 7: 1 1 7",
    "cut(X 0 2, X 0 120, X 0 120): 0 1 2: 0 2 1",
    "cutAt(X 0 2, X 0 120): 0 1: 0 120",
    "change(X 0 2, X 0 120, A 0 31): 0 1 2: 0 120 2",
    "turn(X 0 2): 0: ",
    "toLength(X 0 2, A 0 120): 0 5: ",
    "undo(X 0 2, A 1 12): 0 1: 2 1",
    "redo(X 0 2, A 1 12): 0 1: 2 1",
    "reset(X 3 5): 3: ",
    "mark(X 3 5): 3: ",
    "back(X 3 5): 3: ",
    "keep(X 0 3, X 0 7): 0 3: ",
    "keepPart(X 0 3, X 0 7, A 0 120, A 0 120): 0 3 1 2: 0 3 2 1",
    "takeRow(X 0 1, X 0 7): 0 1: ",
    "changeRow(X 0 1, X 0 120, A 0 31): 0 1 2: 0 120 2",
    "begin(X 0 1, A 4 20, A 0 3): 0 10 1: ",
    "feed(X 0 1, A 0 31, A 0 24, A 0 24, A 0 6): 0 5 2 3 1: 1 5 2 3 1",
    "feed(X 0 1, A 0 31, A 0 24, A 0 24, A 0 6): 0 5 2 3 1: 0 5 20 20 1",
    "feedLetter(X 0 1, A 0 31, A 0 6): 0 2 1: 1 2 1",
    "feedKept(X 0 1, X 0 3, A 0 6): 0 0 1: 1 0 1",
    "text(X 0 7, A 0 2): 0 1: ",
    "length(X 0 7, A 0 1): 0 1: ",
    "signAt(X 0 7, X 0 120): 0 1: 0 120",
    "order(X 0 7, X 0 7): 0 3: ",
    "find(X 0 7, X 0 3, boolean): 0 1 0: ",
    "turned(X 0 7): 3: ",
    "joined(X 0 5, X 0 5, X 0 5, boolean): 0 3 1 0: ",
    "keptText(X 0 3): 1: ",
    "isKept(X 0 3, X 0 7): 1 6: ",
    "rowText(X 0 1): 0: ",
    "steps(X 0 2, boolean): 0 1: ",
    "markOf(X 3 5): 3: ",
    "wouldSet(X 0 3, A 4 20, A 0 3): 0 10 1: ",
    "line(X 0 1, A 0 120): 0 1: ",
    "word(X 0 1): 0: ",
    "pressNumber(X 0 1, A 0 6): 0 1: ",
    "house(A 0 2): 0: "
  };

  private static final Check check = new Check("ArgumentsTest");
  private static final Edge edge = new Edge(check);

  private final Method method;
  private final String[] bounds;
  private final int[] letDone;
  private final int[] notDone;

  private ArgumentsTest(String row) {
    String[] parts = row.split("[():]+ ?", -1);
    method = named(parts[0]);
    bounds = parts[1].split(", ");
    letDone = numbers(parts[2]);
    notDone = numbers(parts[3]);
  }

  public static void main(String[] args) {
    TreeSet<String> looked = new TreeSet<>();
    for (String row : FACE) {
      ArgumentsTest one = new ArgumentsTest(row);
      looked.add(one.method.getName());
      one.lastThatAreLet();
      one.firstThatAreNot();
      one.theOneNamedFirst();
      one.aheadOfNotDone();
    }
    check.due("all with arguments are looked at", looked, withArguments());
    check.finish();
  }

  private static Method named(String name) {
    for (Method one : Manydoors.class.getDeclaredMethods()) {
      if (one.getName().equals(name)) {
        return one;
      }
    }
    throw new IllegalStateException("no method " + name);
  }

  private static TreeSet<String> withArguments() {
    TreeSet<String> names = new TreeSet<>();
    for (Method one : Manydoors.class.getDeclaredMethods()) {
      if (Modifier.isPublic(one.getModifiers()) && one.getParameterCount() > 0) {
        names.add(one.getName());
      }
    }
    return names;
  }

  private static int[] numbers(String text) {
    return Arrays.stream(text.trim().split(" "))
        .filter(number -> !number.isEmpty())
        .mapToInt(Integer::parseInt)
        .toArray();
  }

  private boolean isNumber(int at) {
    return !bounds[at].equals("boolean");
  }

  private char kind(int at) {
    return bounds[at].charAt(0);
  }

  private int least(int at) {
    return Integer.parseInt(bounds[at].split(" ")[1]);
  }

  private int most(int at) {
    return Integer.parseInt(bounds[at].split(" ")[2]);
  }

  private int[] wrong(int at) {
    return new int[] {least(at) - 1, most(at) + 1, Integer.MIN_VALUE, Integer.MAX_VALUE};
  }

  private Edge.Call call(int[] numbers) {
    Object[] arguments = new Object[numbers.length];
    for (int at = 0; at < numbers.length; at++) {
      arguments[at] = isNumber(at) ? (Object) numbers[at] : (Object) (numbers[at] == 1);
    }
    return x -> invoked(x, arguments);
  }

  private Object invoked(Manydoors x, Object[] arguments) {
    try {
      return method.invoke(x, arguments);
    } catch (InvocationTargetException e) {
      if (e.getCause() instanceof RuntimeException) {
        throw (RuntimeException) e.getCause();
      }
      throw new IllegalStateException(e);
    } catch (IllegalAccessException e) {
      throw new IllegalStateException(e);
    }
  }

  private static int[] with(int[] numbers, int at, int number) {
    int[] changed = numbers.clone();
    changed[at] = number;
    return changed;
  }

  private String told(int[] numbers) {
    return method.getName() + Arrays.toString(numbers);
  }

  private void isLet(int[] numbers) {
    Manydoors x = new Manydoors();
    Filled.rich(x);
    check.due(told(numbers) + " throws", Check.thrownBy(() -> call(numbers).on(x)), "nothing");
  }

  private void isThrown(int[] numbers, char kind) {
    edge.thrown(told(numbers), Filled::rich, call(numbers), kind);
  }

  /** Each argument at both of its bounds, the others anywhere. */
  private void lastThatAreLet() {
    isLet(letDone);
    for (int at = 0; at < bounds.length; at++) {
      if (isNumber(at)) {
        isLet(with(letDone, at, least(at)));
        isLet(with(letDone, at, most(at)));
      }
    }
  }

  private void firstThatAreNot() {
    for (int at = 0; at < bounds.length; at++) {
      if (isNumber(at)) {
        for (int number : wrong(at)) {
          isThrown(with(letDone, at, number), kind(at));
        }
      }
    }
  }

  /** Of two arguments that are both wrong: an index is named ahead of another argument. */
  private void theOneNamedFirst() {
    for (int one = 0; one < bounds.length; one++) {
      for (int other = one + 1; other < bounds.length; other++) {
        if (isNumber(one) && isNumber(other)) {
          char kind = kind(one) == 'X' ? 'X' : kind(other);
          isThrown(with(with(letDone, one, least(one) - 1), other, most(other) + 1), kind);
          isThrown(with(with(letDone, one, most(one) + 1), other, least(other) - 1), kind);
        }
      }
    }
  }

  /** What tells -9 throws, if one of its arguments becomes a wrong one. */
  private void aheadOfNotDone() {
    if (notDone.length == 0) {
      return;
    }
    Manydoors x = new Manydoors();
    Filled.rich(x);
    check.due(told(notDone), call(notDone).on(x), -9);
    for (int at = 0; at < bounds.length; at++) {
      isThrown(with(notDone, at, least(at) - 1), kind(at));
      isThrown(with(notDone, at, most(at) + 1), kind(at));
    }
  }
}
