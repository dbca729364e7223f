import java.io.IOException;
import java.lang.reflect.Constructor;
import java.lang.reflect.Field;
import java.lang.reflect.Method;
import java.lang.reflect.Modifier;
import java.nio.file.Files;
import java.nio.file.Path;
import java.util.ArrayList;
import java.util.Arrays;
import java.util.List;
import java.util.Random;
import java.util.TreeSet;
import java.util.regex.Matcher;
import java.util.regex.Pattern;

/** The public face, rules of LANGUAGE.md that can be read off the file, and wild arguments. */
public final class FaceTest {
  private static final String SOURCE = "src/main/java/BoatsMoveOn.java";
  private static final List<String> METHODS =
      List.of(
          "int place(int)", "int way(int,int,int)", "int shut(int,int,int)", "boolean pace(int)",
          "int boat()", "int seen(int,int,int,int)", "int excuse(int,int,int,int)",
          "int feed(int,int,int,int,int)", "int end(int)", "int text()", "int fault(int)",
          "int miles(int,int,int)", "int round(int,int)", "int may(int,int,int)",
          "int known(int,int,int)", "int over(int,int,int,int)",
          "int longest(int,int,int,int,int)", "int far(int,int,int)", "int shortOf(int,int,int)",
          "int broken(int,int,int)", "int look(int,int,int,int)", "int send(int,int,int)",
          "int appeal(int,int)", "int crowd(int,int,int,int)", "int tied(int,int,int)",
          "int swapped(int,int,int,int)", "int image()", "int back()", "int about(int)");

  public static void main(String[] args) throws Exception {
    Due due = new Due("FaceTest");
    faceOfTheDocument(due);
    face(due);
    nested(due);
    source(due);
    wildArguments(due);
    fullObject(due);
    due.close();
  }

  private static void faceOfTheDocument(Due due) throws IOException {
    TreeSet<String> found = new TreeSet<>();
    for (String method : Document.face()) {
      found.add(method.replaceAll("int \\w+(?=[,)])", "int").replace(", ", ","));
    }
    boolean same = found.equals(new TreeSet<>(METHODS));
    due.is("the document's methods are " + found, same || !Document.isThere(), true);
  }

  private static String signature(Method method) {
    List<String> types = new ArrayList<>();
    for (Class<?> type : method.getParameterTypes()) {
      types.add(type.getName());
    }
    return method.getReturnType().getName() + " " + method.getName() + "(" + String.join(",", types)
        + ")";
  }

  private static void face(Due due) {
    Class<?> type = BoatsMoveOn.class;
    due.is("public final", type.getModifiers(), Modifier.PUBLIC | Modifier.FINAL);
    TreeSet<String> found = new TreeSet<>();
    for (Method method : type.getDeclaredMethods()) {
      if (Modifier.isPublic(method.getModifiers())) {
        found.add(signature(method));
        due.is(method + " isn't static", Modifier.isStatic(method.getModifiers()), false);
      } else {
        due.is(method + " is private", Modifier.isPrivate(method.getModifiers()), true);
      }
    }
    System.out.println("face: " + found.size() + " public methods");
    due.is("the methods are " + found, found.equals(new TreeSet<>(METHODS)), true);
    for (Field field : type.getDeclaredFields()) {
      boolean isPublic = Modifier.isPublic(field.getModifiers());
      due.is(field + " is public", isPublic, field.getName().equals("NONE"));
      due.is(field + " is public or private", isPublic || isPrivate(field), true);
    }
    due.is("NONE", BoatsMoveOn.NONE, -1);
    Constructor<?>[] constructors = type.getDeclaredConstructors();
    due.is("one constructor", constructors.length, 1);
    due.is("without parameters", constructors[0].getParameterCount(), 0);
    due.is("public", Modifier.isPublic(constructors[0].getModifiers()), true);
  }

  private static boolean isPrivate(Field field) {
    return Modifier.isPrivate(field.getModifiers());
  }

  private static void nested(Due due) {
    Class<?>[] classes = BoatsMoveOn.class.getDeclaredClasses();
    due.is("at most twelve classes", classes.length <= 12, true);
    TreeSet<String> publicNames = new TreeSet<>();
    for (String method : METHODS) {
      publicNames.add(method.substring(method.indexOf(' ') + 1, method.indexOf('(')));
    }
    List<Class<?>> all = new ArrayList<>(Arrays.asList(classes));
    for (Class<?> type : classes) {
      due.is(type + " is static", Modifier.isStatic(type.getModifiers()), true);
      due.is(type + " isn't public", Modifier.isPublic(type.getModifiers()), false);
      for (Method method : type.getDeclaredMethods()) {
        boolean clash = publicNames.contains(method.getName());
        due.is(method + " bears a public name", clash, false);
      }
    }
    all.add(BoatsMoveOn.class);
    for (Class<?> type : all) {
      int fields = 0;
      for (Field field : type.getDeclaredFields()) {
        boolean isStatic = Modifier.isStatic(field.getModifiers());
        fields += isStatic ? 0 : 1;
        due.is(field + " is no static state", !isStatic || isFinal(field), true);
      }
      due.is(type + " has at most twenty fields", fields <= 20, true);
      for (Method method : type.getDeclaredMethods()) {
        due.is(method + " has at most seven parameters", method.getParameterCount() <= 7, true);
      }
    }
  }

  private static boolean isFinal(Field field) {
    return Modifier.isFinal(field.getModifiers());
  }

  private static void source(Due due) throws IOException {
    String source = Files.readString(Path.of(SOURCE));
    String code = source.replaceAll("(?s)/\\*.*?\\*/", "").replaceAll("//[^\\n]*", "");
    for (String word :
        List.of(
            "throw", "throws", "try", "catch", "synchronized", "assert", "package", "while",
            "hashCode", "toString", "System\\.(?!arraycopy)\\w+", "Random", "Thread", "Exact",
            "->", "::", "double", "float", "var", "instanceof", "new \\w+\\(\\)\\s*\\{")) {
      Matcher matcher = Pattern.compile("(?<!\\w)" + word + "(?!\\w)").matcher(code);
      due.is("the source has " + word, matcher.find(), false);
    }
    Matcher imports = Pattern.compile("import ([\\w.]+);").matcher(code);
    while (imports.find()) {
      due.is("import " + imports.group(1), imports.group(1).equals("java.util.Arrays"), true);
    }
    longestMethod(due, code);
    // Rows are made with the object, never by a call.
    Matcher made = Pattern.compile("(?m)^( +)(.*new .*)$").matcher(code);
    while (made.find()) {
      String line = made.group(2);
      boolean field = line.contains("private ") || line.contains("final ");
      boolean inConstructor = line.startsWith("texts[i] =") || line.startsWith("steps =");
      due.is("made by a call: " + line, field || inConstructor, true);
    }
  }

  private static void longestMethod(Due due, String code) {
    int begun = -1;
    int found = 0;
    String[] lines = code.split("\n", -1);
    String indent = "";
    for (int i = 0; i < lines.length; i++) {
      if (begun < 0 && lines[i].matches("(  |    )\\w[\\w\\[\\]. ]*\\([^;]*\\) \\{")) {
        begun = i;
        found++;
        indent = lines[i].substring(0, lines[i].length() - lines[i].stripLeading().length());
      } else if (begun >= 0 && lines[i].equals(indent + "}")) {
        String name = lines[begun].trim();
        due.is(name + " is longer than sixty lines", i - begun + 1 > 60, false);
        begun = -1;
      }
    }
    due.is("methods were found and have an end: " + found, found > 100 && begun < 0, true);
  }

  /** No call may throw, whatever it is given and whatever was told. */
  private static void wildArguments(Due due) throws Exception {
    Method[] methods = BoatsMoveOn.class.getDeclaredMethods();
    List<Method> face = new ArrayList<>();
    for (Method method : methods) {
      if (Modifier.isPublic(method.getModifiers())) {
        face.add(method);
      }
    }
    face.sort((one, other) -> signature(one).compareTo(signature(other)));
    Random random = new Random(11);
    for (int run = 0; run < 300; run++) {
      BoatsMoveOn x = new BoatsMoveOn();
      int calls = run % 10 == 0 ? 3000 : 512;
      for (int i = 0; i < calls; i++) {
        Method method = face.get(random.nextInt(face.size()));
        Object[] arguments = new Object[method.getParameterCount()];
        for (int j = 0; j < arguments.length; j++) {
          arguments[j] = argument(random);
        }
        method.invoke(x, arguments);
      }
    }
    due.is("no call threw", true, true);
  }

  private static int argument(Random random) {
    switch (random.nextInt(12)) {
      case 0:
        return random.nextInt();
      case 1:
        return random.nextBoolean() ? Integer.MIN_VALUE : Integer.MAX_VALUE;
      case 2:
        return -1 - random.nextInt(3);
      case 3:
      case 4:
        return random.nextInt(70);
      default:
        return random.nextInt(8);
    }
  }

  /** All rows full at once: ten places, fifteen ways, sixty sightings and all else. */
  private static void fullObject(Due due) {
    BoatsMoveOn x = new BoatsMoveOn();
    for (int i = 0; i < 10; i++) {
      x.place(i);
    }
    for (int i = 0; i < 15; i++) {
      x.way(i % 10, (i * 3 + 1) % 10, 1 + i);
    }
    due.is("ways", x.way(0, 1, 4), x.about(1) == 15 ? -1 : x.about(1) - 1);
    for (int i = 0; i < 10; i++) {
      x.shut(i, 2 * i, 40 + i);
    }
    for (int i = 0; i < 8; i++) {
      x.boat();
    }
    for (int i = 0; i < 60; i++) {
      x.seen(i % 8, i * 7 % 10, i / 8 * 8, 59);
    }
    for (int i = 0; i < 20; i++) {
      x.excuse(i % 8, i, 3 * i, 59);
    }
    x.pace(60);
    for (int i = 0; i < 4; i++) {
      Due.tell(x, "near miles<9; stay 3; excuse day/7*7=day; need days*5;");
    }
    long sum = 0;
    for (int boat = 0; boat < 8; boat++) {
      for (int day = 0; day < 60; day += 7) {
        sum += x.look(boat, day, 59, 0) + x.look(boat, day, 59, 1) + x.broken(boat, boat % 4, 59);
        sum += x.longest(boat, boat, boat % 4, 59, 0) + x.tied(boat, (boat + 1) % 8, 59);
        sum += x.swapped(boat, (boat + 1) % 8, 59, -1) + x.crowd(boat, day, 59, 1);
      }
    }
    due.is("it answers", sum != Long.MIN_VALUE, true);
  }
}
