import java.io.IOException;
import java.lang.reflect.Constructor;
import java.lang.reflect.Field;
import java.lang.reflect.Method;
import java.lang.reflect.Modifier;
import java.nio.file.Files;
import java.nio.file.Path;
import java.util.ArrayList;
import java.util.Arrays;
import java.util.List;
import java.util.TreeSet;
import java.util.regex.Matcher;
import java.util.regex.Pattern;

/** The public face, as the document has it, and those rules of LANGUAGE.md that can be looked up. */
public final class FaceTest {
  private static final String X = " throws IndexOutOfBoundsException";
  private static final String XA = X + ",IllegalArgumentException";
  private static final String A = " throws IllegalArgumentException";

  private static final String[] FACE = {
    "int putLetter(int,int,int)" + XA,
    "int putText(int,int,int,int,int)" + XA,
    "int putKept(int,int,int)" + XA,
    "int putRow(int,int,int,int)" + XA,
    "int pour(int,int)" + X,
    "int insert(int,int,int,int,int)" + XA,
    "int insertNumber(int,int,int)" + XA,
    "int cut(int,int,int)" + X,
    "int cutAt(int,int)" + X,
    "int change(int,int,int)" + XA,
    "int turn(int)" + X,
    "int toLength(int,int)" + XA,
    "int undo(int,int)" + XA,
    "int redo(int,int)" + XA,
    "int reset(int)" + X,
    "int mark(int)" + X,
    "int back(int)" + X,
    "int keep(int,int)" + X,
    "int keepPart(int,int,int,int)" + XA,
    "int takeRow(int,int)" + X,
    "int changeRow(int,int,int)" + XA,
    "int begin(int,int,int)" + XA,
    "int feed(int,int,int,int,int)" + XA,
    "int feedLetter(int,int,int)" + XA,
    "int feedKept(int,int,int)" + XA,
    "String text(int,int)" + XA,
    "int length(int,int)" + XA,
    "int signAt(int,int)" + X,
    "int order(int,int)" + X,
    "int find(int,int,boolean)" + X,
    "String turned(int)" + X,
    "String joined(int,int,int,boolean)" + X,
    "String keptText(int)" + X,
    "boolean isKept(int,int)" + X,
    "String rowText(int)" + X,
    "int steps(int,boolean)" + X,
    "int markOf(int)" + X,
    "String wouldSet(int,int,int)" + XA,
    "String line(int,int)" + XA,
    "String word(int)" + X,
    "int pressNumber(int,int)" + XA,
    "int house(int)" + A,
    "int knock()",
    "boolean isSound()",
    "long digest()"
  };

  private static final Check check = new Check("FaceTest");

  public static void main(String[] args) throws IOException {
    face();
    nothingElseIsSeen();
    namesInside();
    source(Files.readString(Path.of(args.length > 0 ? args[0] : "src/main/java/Manydoors.java")));
    check.finish();
  }

  private static String told(Method method) {
    List<String> parameters = new ArrayList<>();
    for (Class<?> type : method.getParameterTypes()) {
      parameters.add(type.getSimpleName());
    }
    List<String> thrown = new ArrayList<>();
    for (Class<?> type : method.getExceptionTypes()) {
      thrown.add(type.getSimpleName());
    }
    return method.getReturnType().getSimpleName() + " " + method.getName()
        + "(" + String.join(",", parameters) + ")"
        + (thrown.isEmpty() ? "" : " throws " + String.join(",", thrown));
  }

  private static void face() {
    TreeSet<String> seen = new TreeSet<>();
    for (Method method : Manydoors.class.getDeclaredMethods()) {
      if (!Modifier.isPrivate(method.getModifiers())) {
        check.due(method.getName() + " is public", Modifier.isPublic(method.getModifiers()), true);
        check.due(method.getName() + " is static", Modifier.isStatic(method.getModifiers()), false);
        seen.add(told(method));
      }
    }
    check.due("the methods", seen, new TreeSet<>(Arrays.asList(FACE)));
    int kind = Manydoors.class.getModifiers();
    check.due("the class", Modifier.isPublic(kind) && Modifier.isFinal(kind), true);
    Constructor<?>[] constructors = Manydoors.class.getDeclaredConstructors();
    check.due("constructors", constructors.length, 1);
    check.due("its arguments", constructors[0].getParameterCount(), 0);
    check.due("it is public", Modifier.isPublic(constructors[0].getModifiers()), true);
  }

  private static void nothingElseIsSeen() {
    check.due("classes inside", Manydoors.class.getDeclaredClasses().length < 12, true);
    for (Field field : Manydoors.class.getDeclaredFields()) {
      check.due(field.getName() + " is private", Modifier.isPrivate(field.getModifiers()), true);
      if (Modifier.isStatic(field.getModifiers())) {
        check.due(field.getName() + " is final", Modifier.isFinal(field.getModifiers()), true);
      }
    }
    for (Class<?> inside : Manydoors.class.getDeclaredClasses()) {
      int kind = inside.getModifiers();
      check.due(inside + " is private", Modifier.isPrivate(kind), true);
      check.due(inside + " is static", Modifier.isStatic(kind), true);
    }
  }

  /** No method inside, private ones too, bears the name of one of the face. */
  private static void namesInside() {
    TreeSet<String> face = new TreeSet<>();
    for (String method : FACE) {
      face.add(method.replaceAll("^\\w+ (\\w+)\\(.*$", "$1"));
    }
    check.due("names of the face", face.size(), FACE.length);
    List<Class<?>> inside = new ArrayList<>(Arrays.asList(Manydoors.class.getDeclaredClasses()));
    inside.add(Manydoors.class);
    for (Class<?> type : inside) {
      for (Method method : type.getDeclaredMethods()) {
        boolean isFace = type == Manydoors.class && Modifier.isPublic(method.getModifiers());
        boolean isFree = isFace || !face.contains(method.getName());
        check.due(method + " has a name of its own", isFree, true);
        check.due(method + " has at most 7 parameters", method.getParameterCount() <= 7, true);
      }
    }
  }

  private static void source(String text) {
    String code = text.replaceAll("(?s)/\\*.*?\\*/", "").replaceAll("//[^\n]*", "");
    String[] ruledOut = {
      "\\bimport\\b", "\\bpackage\\b", "->", "::", "\\bfinally\\b", "\\bcatch\\b", "\\bassert\\b",
      "\\bsynchronized\\b", "\\bException\\b", "\\bThrowable\\b", "\\bstatic\\s*\\{", "\"\\s*\\+",
      "\\+\\s*\"", "\\bthis\\b", "Exact\\(", "\\bprotected\\b", "\\bequals\\(", "\\bhashCode\\("
    };
    for (String one : ruledOut) {
      Matcher found = Pattern.compile(one).matcher(code);
      check.due("how often " + one + " stands in the class", found.results().count(), 0L);
    }
    check.due("signs above 127", text.chars().filter(sign -> sign > 127).count(), 0L);
    namesAreListed(code);
    methodsAreShort(text);
  }

  /** No class is named but the class's own and those that rules 3, 4 and 6 list, no function but rule 4's. */
  private static void namesAreListed(String code) {
    List<String> listed = new ArrayList<>(List.of("Manydoors", "String", "Math", "System"));
    listed.addAll(List.of("IndexOutOfBoundsException", "IllegalArgumentException"));
    for (Class<?> inside : Manydoors.class.getDeclaredClasses()) {
      listed.add(inside.getSimpleName());
    }
    String written = code.replaceAll("\"[^\"]*\"", "");
    Matcher name = Pattern.compile("\\b[A-Z]\\w*[a-z]\\w*").matcher(written);
    while (name.find()) {
      check.due(name.group() + " is listed", listed.contains(name.group()), true);
    }
    List<String> functions = List.of("Math.min", "Math.max", "Math.abs", "Math.floorMod", "System.arraycopy");
    Matcher function = Pattern.compile("\\b(Math|System|String)\\.\\w+").matcher(written);
    while (function.find()) {
      check.due(function.group() + " is listed", functions.contains(function.group()), true);
    }
  }

  private static void methodsAreShort(String text) {
    int begun = 0;
    int at = 0;
    for (String line : text.split("\n")) {
      at++;
      if (line.matches("(  ){1,2}[\\w].*\\{") || line.matches("      throws .*\\{")) {
        begun = at;
      }
      if (line.matches("(  ){1,2}\\}")) {
        check.due("the method that ends in line " + at + " is short", at - begun <= 60, true);
      }
    }
  }
}
