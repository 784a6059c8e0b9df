import java.io.IOException;
import java.lang.reflect.InvocationTargetException;
import java.lang.reflect.Method;
import java.nio.file.Files;
import java.nio.file.Path;
import java.util.ArrayList;
import java.util.List;
import java.util.regex.Matcher;
import java.util.regex.Pattern;

/** What README.md tells: each call of its example answers as it says there, and each test is named in it. */
public final class ReadmeTest {
  private static final Pattern BLOCK = Pattern.compile("(?s)```java\n(.*?)```");
  private static final Pattern TOLD =
      Pattern.compile("x\\.(\\w+)\\(([^)]*)\\); *// (throws \\w+|answers (?:\"[^\"]*\"|[-\\w]+)).*");
  private static final String MADE = "Manydoors x = new Manydoors();";

  private static final Check check = new Check("ReadmeTest");

  public static void main(String[] args) throws IOException, IllegalAccessException {
    String readme = Files.readString(Path.of("README.md"));
    Matcher block = BLOCK.matcher(readme);
    check.due("an example", block.find(), true);
    example(block.group(1));
    tests(readme);
    check.finish();
  }

  private static void example(String block) throws IllegalAccessException {
    Manydoors x = new Manydoors();
    int calls = 0;
    for (String line : block.split("\n")) {
      Matcher told = TOLD.matcher(line);
      if (told.matches()) {
        calls++;
        check.due(line, answer(x, told.group(1), told.group(2)), told.group(3));
      } else {
        boolean isNoCall = line.isEmpty() || line.startsWith("//") || line.equals(MADE);
        check.due("no call is left out: " + line, isNoCall, true);
      }
    }
    check.due("the example has calls", calls > 0, true);
  }

  private static String answer(Manydoors x, String name, String arguments) throws IllegalAccessException {
    for (Method method : Manydoors.class.getDeclaredMethods()) {
      if (method.getName().equals(name)) {
        return answer(x, method, values(arguments));
      }
    }
    return "there is no such call";
  }

  private static String answer(Manydoors x, Method method, Object[] values) throws IllegalAccessException {
    try {
      Object answer = method.invoke(x, values);
      return "answers " + (answer instanceof String ? "\"" + answer + "\"" : answer);
    } catch (InvocationTargetException e) {
      return "throws " + e.getCause().getClass().getSimpleName();
    }
  }

  private static Object[] values(String arguments) {
    List<Object> values = new ArrayList<>();
    for (String one : arguments.isEmpty() ? new String[0] : arguments.split(", ")) {
      boolean isTruth = one.equals("true") || one.equals("false");
      values.add(isTruth ? (Object) Boolean.valueOf(one) : (Object) Integer.valueOf(one));
    }
    return values.toArray();
  }

  private static void tests(String readme) throws IOException {
    try (var files = Files.list(Path.of("src/test/java"))) {
      for (Path file : (Iterable<Path>) files.sorted()::iterator) {
        String name = file.getFileName().toString().replace(".java", "");
        if (name.endsWith("Test")) {
          check.due(name + " is named", readme.contains("| " + name + " |"), true);
        }
      }
    }
  }
}
