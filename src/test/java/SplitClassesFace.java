import java.io.IOException;
import java.lang.reflect.Constructor;
import java.lang.reflect.Field;
import java.lang.reflect.Method;
import java.lang.reflect.Modifier;
import java.nio.file.Files;
import java.nio.file.Path;
import java.util.Arrays;
import java.util.List;
import java.util.Set;
import java.util.TreeSet;
import java.util.regex.Matcher;
import java.util.regex.Pattern;

/** The public face as the document has it, and those rules of LANGUAGE.md that can be seen from outside or by words. */
public final class SplitClassesFace {
  private static final String SOURCE = "src/main/java/SplitClasses.java";
  private static final List<String> FACE = List.of("told 1", "item 2", "classAt 1", "setBy 3", "alike 3", "apart 2",
    "search 2", "items 1", "edge 3", "columns 2", "letters 1", "goes 3", "finals 1", "begin 0", "split 1", "by 3",
    "refine 1", "join 1", "arrange 0", "drift 1", "undo 1", "write 2", "tear 0", "seed 1", "keep 1", "goBack 1");
  private static final List<String> CONSTANTS =
    List.of("NONE=-1", "UNKNOWN=-1000000001", "OUTSIDE=-1000000002", "NOT=-1000000003", "FULL=-1000000004");
  private static int wrong = 0;

  private static void due(String what, Object got, Object want) {
    if (!got.equals(want)) {
      wrong++;
      System.out.println(what + ": " + got + ", due is " + want);
    }
  }

  private static void members() throws IllegalAccessException {
    Class<?> face = SplitClasses.class;
    due("the class", Modifier.toString(face.getModifiers()), "public final");
    Set<String> methods = new TreeSet<>();
    for (Method m : face.getDeclaredMethods()) {
      if (Modifier.isPrivate(m.getModifiers()) || m.isSynthetic()) continue;
      due("modifiers of " + m.getName(), Modifier.toString(m.getModifiers()), "public");
      due("answer of " + m.getName(), m.getReturnType(), int.class);
      for (Class<?> type : m.getParameterTypes()) due("parameter of " + m.getName(), type, int.class);
      methods.add(m.getName() + " " + m.getParameterCount());
    }
    due("methods", methods, new TreeSet<>(FACE));
    Set<String> constants = new TreeSet<>();
    for (Field f : face.getDeclaredFields()) {
      if (Modifier.isPrivate(f.getModifiers())) continue;
      due("modifiers of " + f.getName(), Modifier.toString(f.getModifiers()), "public static final");
      constants.add(f.getName() + "=" + f.getInt(null));
    }
    due("constants", constants, new TreeSet<>(CONSTANTS));
    Constructor<?>[] constructors = face.getDeclaredConstructors();
    due("constructors", constructors.length, 1);
    due("the constructor", Modifier.toString(constructors[0].getModifiers()) + constructors[0].getParameterCount(), "public0");
  }

  private static void classesInside() {
    Set<String> names = new TreeSet<>();
    for (String entry : FACE) names.add(entry.substring(0, entry.indexOf(' ')));
    Class<?>[] inside = SplitClasses.class.getDeclaredClasses();
    due("twelve classes at most", inside.length + 1 <= 12, true);
    for (Class<?> c : inside) {
      due(c.getSimpleName() + " is static", Modifier.isStatic(c.getModifiers()), true);
      due(c.getSimpleName() + " is not public", Modifier.isPublic(c.getModifiers()), false);
      for (Method m : c.getDeclaredMethods()) {
        due(m + " bears a name of the face", names.contains(m.getName()), false);
        due(m + " has seven parameters at most", m.getParameterCount() <= 7, true);
      }
      due(c.getSimpleName() + " has twenty fields at most", c.getDeclaredFields().length <= 20, true);
    }
    for (Method m : SplitClasses.class.getDeclaredMethods())
      if (Modifier.isPrivate(m.getModifiers())) due(m + " bears a name of the face", names.contains(m.getName()), false);
  }

  /** Nothing that was made can change but what objects hold. */
  private static void fields() {
    for (Class<?> c : SplitClasses.class.getDeclaredClasses()) staticsAreFinal(c);
    staticsAreFinal(SplitClasses.class);
  }

  private static void staticsAreFinal(Class<?> c) {
    for (Field f : c.getDeclaredFields())
      if (Modifier.isStatic(f.getModifiers())) due(f + " is final", Modifier.isFinal(f.getModifiers()), true);
  }

  private static void words() throws IOException {
    String source = Files.readString(Path.of(SOURCE));
    String code = source.replaceAll("(?s)/\\*.*?\\*/", " ").replaceAll("//[^\n]*", " ");
    for (String word : List.of("throw", "throws", "try", "catch", "synchronized", "assert", "package", "protected", "var",
        "Exact", "hashCode", "toString", "Random", "System.currentTimeMillis", "System.nanoTime", "Thread", "->", "::")) {
      String edge = Character.isLetter(word.charAt(0)) ? "\\b" : "";
      Matcher found = Pattern.compile(edge + Pattern.quote(word) + edge).matcher(code);
      due("the word " + word, found.find(), false);
    }
    for (String line : code.split("\n")) {
      if (line.startsWith("import")) due("an import", line, "import java.util.Arrays;");
    }
    due("ASCII alone", source.chars().allMatch(c -> c < 128), true);
  }

  /** Calls stay short: no method of the file has more than some sixty lines. */
  private static void lengths() throws IOException {
    List<String> lines = Arrays.asList(Files.readString(Path.of(SOURCE)).split("\n"));
    Pattern head = Pattern.compile("^( {4}| {8})(public|private|static|final|int|void|boolean|[A-Z]).*\\) \\{$");
    for (int at = 0; at < lines.size(); at++) {
      Matcher m = head.matcher(lines.get(at));
      if (!m.find()) continue;
      int end = at;
      while (end < lines.size() && !lines.get(end).equals(m.group(1) + "}")) end++;
      due("sixty lines at most from line " + (at + 1), end - at <= 60, true);
    }
  }

  public static void main(String[] args) throws Exception {
    members();
    classesInside();
    fields();
    words();
    lengths();
    System.out.println(wrong == 0 ? "the face is as due" : wrong + " things are not as due");
    if (wrong != 0) System.exit(1);
  }
}
