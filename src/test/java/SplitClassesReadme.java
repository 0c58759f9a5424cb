import java.io.File;
import java.io.IOException;
import java.lang.reflect.Method;
import java.lang.reflect.Modifier;
import java.nio.file.Files;
import java.nio.file.Path;
import java.util.Arrays;
import java.util.Set;
import java.util.TreeSet;
import java.util.regex.Matcher;
import java.util.regex.Pattern;

/** README.md held against the class: each answer of its example, and what it lists. */
public final class SplitClassesReadme {
  private static final Pattern CALL = Pattern.compile("x\\.(\\w+)\\(([^)]*)\\);\\s+// (-?\\w+).*");
  private static int wrong = 0;

  private static void due(String what, Object got, Object want) {
    if (got.equals(want)) return;
    wrong++;
    System.out.println(what + ": " + got + ", due is " + want);
  }

  private static String part(String page, String from, String to) {
    int start = page.indexOf(from), end = start < 0 ? -1 : page.indexOf(to, start + from.length());
    if (end < 0) throw new IllegalStateException("README.md has no part from " + from + " to " + to);
    return page.substring(start + from.length(), end);
  }

  private static void example(String page) throws ReflectiveOperationException {
    String[] lines = part(page, "```java\n", "```").split("\n");
    due("the first line", lines[0], "SplitClasses x = new SplitClasses();");
    SplitClasses x = new SplitClasses();
    for (String line : Arrays.copyOfRange(lines, 1, lines.length)) {
      Matcher m = CALL.matcher(line);
      if (m.matches()) due(line, answer(x, m.group(1), m.group(2)), number(m.group(3)));
      else due("a call with its answer", line, "such a one");
    }
    due("there is an example", lines.length > 10, true);
  }

  private static int answer(SplitClasses x, String name, String arguments) throws ReflectiveOperationException {
    String[] texts = arguments.isEmpty() ? new String[0] : arguments.split(", ");
    Class<?>[] types = new Class<?>[texts.length];
    Object[] numbers = new Object[texts.length];
    for (int i = 0; i < texts.length; i++) {
      types[i] = int.class;
      numbers[i] = number(texts[i]);
    }
    return (Integer) SplitClasses.class.getMethod(name, types).invoke(x, numbers);
  }

  private static int number(String text) throws ReflectiveOperationException {
    if (text.matches("[A-Z]+")) return SplitClasses.class.getField(text).getInt(null);
    return text.startsWith("0b") ? Integer.parseInt(text.substring(2), 2) : Integer.parseInt(text);
  }

  private static Set<String> found(String text, String pattern) {
    Set<String> found = new TreeSet<>();
    Matcher m = Pattern.compile(pattern).matcher(text);
    while (m.find()) found.add(m.group(1));
    return found;
  }

  private static void lists(String page) {
    Set<String> calls = new TreeSet<>(), listed = new TreeSet<>(), classes = new TreeSet<>(), tests = new TreeSet<>();
    for (Method m : SplitClasses.class.getDeclaredMethods())
      if (Modifier.isPublic(m.getModifiers())) calls.add(m.getName() + " " + m.getParameterCount());
    for (String call : found(part(page, "All calls:", "The kinds of"), "`(\\w+\\([^`]*\\))`")) {
      String arguments = call.substring(call.indexOf('(') + 1, call.length() - 1);
      listed.add(call.substring(0, call.indexOf('(')) + " " + (arguments.isEmpty() ? 0 : arguments.split(",").length));
    }
    due("the calls", listed, calls);
    for (Class<?> c : SplitClasses.class.getDeclaredClasses()) classes.add(c.getSimpleName());
    due("the classes inside", found(part(page, "## How it is made", "All objects"), "`(\\w+)`"), classes);
    String[] files = new File("src/test/java").list();
    for (String file : files == null ? new String[0] : files) tests.add(file.replace(".java", ""));
    due("the tests", found(page, "\n- `(SplitClasses\\w+)`"), tests);
  }

  private static void paths(String page) {
    for (String path : found(page, "((?:\\.\\./shared|src|\\.ci)/[\\w./]*\\w)")) due(path + " is there", new File(path).exists(), true);
  }

  public static void main(String[] args) throws IOException, ReflectiveOperationException {
    String page = Files.readString(Path.of("README.md"));
    example(page);
    lists(page);
    paths(page);
    System.out.println(wrong == 0 ? "README.md is as due" : wrong + " things are not as due");
    if (wrong != 0) System.exit(1);
  }
}
