import java.lang.reflect.InvocationTargetException;
import java.lang.reflect.Method;
import java.util.Arrays;
import java.util.HashMap;
import java.util.Map;

/**
 * Runs of 512 calls (what later calls answer is free), arguments in and out of their bounds, compared with
 * PlainModel (promises 1 to 46).
 */
public final class ModelTest {
  // The last one is that of digest(); where that is called behind each one, they are twice as many.
  private static final int CALLS = 512;

  // The bounds of each argument, "low..high"; b is a boolean. A call's weight is how often it stands here.
  private static final String[] CALLS_AND_BOUNDS = {
    "putLetter 0..5 0..31 -3..3",
    "putText 0..5 0..31 0..24 0..24 0..6",
    "putText 0..5 0..31 0..12 0..12 0..6",
    "putKept 0..5 0..3 0..6",
    "putRow 0..5 0..1 0..120 0..24",
    "putRow 0..5 0..1 0..9 0..9",
    "pour 0..7 0..5",
    "insert 0..2 0..120 0..31 0..24 0..24",
    "insert 0..2 0..20 0..31 0..12 0..12",
    "insertNumber 0..2 0..120 -9999..9999",
    "insertNumber 0..2 0..20 -120..120",
    "cut 0..2 0..120 0..120",
    "cut 0..2 0..40 0..60",
    "cutAt 0..2 0..120",
    "change 0..2 0..120 0..31",
    "turn 0..2",
    "toLength 0..2 0..120",
    "undo 0..2 1..12",
    "undo 0..2 1..12",
    "undo 0..2 1..3",
    "redo 0..2 1..12",
    "redo 0..2 1..2",
    "reset 3..5",
    "mark 3..5",
    "back 3..5",
    "keep 0..3 0..7",
    "keepPart 0..3 0..7 0..120 0..120",
    "keepPart 0..3 0..7 0..20 0..30",
    "takeRow 0..1 0..7",
    "changeRow 0..1 0..120 0..31",
    "begin 0..1 4..20 0..3",
    "feed 0..1 0..31 0..24 0..24 0..6",
    "feed 0..1 0..31 0..12 0..12 0..6",
    "feed 0..1 0..31 0..12 0..12 0..6",
    "feedLetter 0..1 0..31 0..6",
    "feedLetter 0..1 26..31 0..6",
    "feedKept 0..1 0..3 0..6",
    "text 0..7 0..2",
    "length 0..7 0..1",
    "signAt 0..7 0..120",
    "order 0..7 0..7",
    "find 0..7 0..3 b",
    "turned 0..7",
    "joined 0..5 0..5 0..5 b",
    "keptText 0..3",
    "isKept 0..3 0..7",
    "rowText 0..1",
    "steps 0..2 b",
    "markOf 3..5",
    "wouldSet 0..3 4..20 0..3",
    "line 0..1 0..120",
    "line 0..1 0..8",
    "word 0..1",
    "pressNumber 0..1 0..6",
    "house 0..2",
    "knock",
    "isSound",
    "digest"
  };

  private final Check check;
  private final Map<String, Method> ofClass = new HashMap<>();
  private final Map<String, Method> ofModel = new HashMap<>();
  private long state;

  private ModelTest(Check check) {
    this.check = check;
    for (Method method : Manydoors.class.getDeclaredMethods()) {
      ofClass.put(method.getName(), method);
    }
    for (Method method : PlainModel.class.getDeclaredMethods()) {
      ofModel.put(method.getName(), method);
    }
  }

  private int next(int bound) {
    state = state * 6364136223846793005L + 1442695040888963407L;
    return (int) ((state >>> 33) % bound);
  }

  private Object argument(String bounds, int wrongOneIn) {
    if (bounds.equals("b")) {
      return next(2) == 0;
    }
    String[] ends = bounds.split("\\.\\.");
    int low = Integer.parseInt(ends[0]);
    int high = Integer.parseInt(ends[1]);
    if (next(wrongOneIn) == 0) {
      int[] wrong = {low - 1, high + 1, Integer.MIN_VALUE, Integer.MAX_VALUE};
      return wrong[next(wrong.length)];
    }
    if (next(8) == 0) {
      return next(2) == 0 ? low : high;
    }
    return low + next(high - low + 1);
  }

  private static Object answer(Method method, Object target, Object[] arguments) {
    try {
      return method.invoke(target, arguments);
    } catch (InvocationTargetException e) {
      return e.getCause().getClass().getName();
    } catch (IllegalAccessException e) {
      throw new IllegalStateException(e);
    }
  }

  private void run(int number, boolean isLookedAtOften) {
    state = number * 7919L + 17;
    Manydoors x = new Manydoors();
    PlainModel model = new PlainModel();
    int wrongOneIn = number % 4 == 0 ? 12 : 60;
    int calls = isLookedAtOften ? CALLS / 2 : CALLS - 1;
    for (int i = 0; i < calls; i++) {
      String[] words = CALLS_AND_BOUNDS[next(CALLS_AND_BOUNDS.length)].split(" ");
      Object[] arguments = new Object[words.length - 1];
      for (int a = 0; a < arguments.length; a++) {
        arguments[a] = argument(words[a + 1], wrongOneIn);
      }
      String what = "run " + number + ", call " + i + ": " + words[0] + Arrays.toString(arguments);
      Object want = answer(ofModel.get(words[0]), model, arguments);
      check.due(what, answer(ofClass.get(words[0]), x, arguments), want);
      if (isLookedAtOften) {
        check.due("digest() behind " + what, x.digest(), model.digest());
      }
    }
    if (!isLookedAtOften) {
      check.due("run " + number + ": digest() at its end", x.digest(), model.digest());
    }
  }

  public static void main(String[] args) {
    Check check = new Check("ModelTest");
    ModelTest test = new ModelTest(check);
    for (int number = 0; number < 600; number++) {
      test.run(number, number < 200);
    }
    check.finish();
  }
}
