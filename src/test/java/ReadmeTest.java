import java.lang.reflect.Field;
import java.lang.reflect.Method;
import java.lang.reflect.Modifier;
import java.nio.file.Files;
import java.nio.file.Path;
import java.util.HashMap;
import java.util.Map;
import java.util.Set;
import java.util.TreeSet;
import java.util.regex.Matcher;
import java.util.regex.Pattern;
import java.util.stream.Collectors;
import java.util.stream.Stream;

// Whether what README.md says is so: the answers of its example, the constants, the tests it lists.
public final class ReadmeTest {
  private static final Pattern LETTERS = Pattern.compile("for \\(char c : \"([^\"]*)\"\\.toCharArray\\(\\)\\) town\\.letter\\(c\\);");
  private static final Pattern CALL = Pattern.compile("(?:int (\\w+) = )?town\\.(\\w+)\\(([^)]*)\\);\\s+// (-?\\d+|[A-Z]+): .*");
  private static final Pattern CONSTANT = Pattern.compile("(?m)^\\| `([A-Z]+)` \\| (-\\d+) \\|");
  private static final Pattern LISTED = Pattern.compile("(?m)^\\| `src/test/java/(\\w+\\.java)` \\|");
  private static int asked = 0;
  private static int wrong = 0;

  private static void hold(boolean holds, String what) {
    asked++;
    if (!holds) {
      wrong++;
      System.out.println("README.md: not so: " + what);
    }
  }

  private static Map<String, Integer> constants() throws Exception {
    Map<String, Integer> all = new HashMap<>();
    for (Field f : ServedAhead.class.getFields())
      if (Modifier.isStatic(f.getModifiers())) all.put(f.getName(), f.getInt(null));
    return all;
  }

  private static Method called(String name) {
    for (Method m : ServedAhead.class.getDeclaredMethods())
      if (m.getName().equals(name) && Modifier.isPublic(m.getModifiers())) return m;
    throw new IllegalArgumentException("no call " + name);
  }

  private static long valueOf(String text, Map<String, Integer> names) {
    return names.containsKey(text) ? names.get(text) : Long.parseLong(text);
  }

  private static void theExample(String page) throws Exception {
    Matcher block = Pattern.compile("(?s)```java\n(.*?)```").matcher(page);
    hold(block.find(), "there is an example");
    Map<String, Integer> names = constants();
    String[] lines = block.group(1).split("\n");
    hold(lines[0].equals("ServedAhead town = new ServedAhead();"), "the example begins with a new object");
    ServedAhead town = new ServedAhead();
    for (int i = 1; i < lines.length; i++) oneLine(town, lines[i], names);
  }

  private static void oneLine(ServedAhead town, String line, Map<String, Integer> names) throws Exception {
    Matcher letters = LETTERS.matcher(line);
    if (letters.matches()) {
      for (char c : letters.group(1).toCharArray()) town.letter(c);
      return;
    }
    Matcher call = CALL.matcher(line);
    hold(call.matches(), "a line that can be read: " + line);
    if (!call.matches()) return;
    String given = call.group(3);
    Object[] args = given.isEmpty() ? new Object[0]
        : Stream.of(given.split(", ")).map(one -> (Object) (int) valueOf(one, names)).toArray();
    long answer = ((Number) called(call.group(2)).invoke(town, args)).longValue();
    hold(answer == valueOf(call.group(4), names), line.trim() + " (it answered " + answer + ")");
    if (call.group(1) != null) names.put(call.group(1), (int) answer);
  }

  private static void theConstants(String page) throws Exception {
    Map<String, Integer> told = new HashMap<>();
    Matcher row = CONSTANT.matcher(page);
    while (row.find()) told.put(row.group(1), Integer.parseInt(row.group(2)));
    hold(told.equals(constants()), "the constants " + told);
  }

  private static void everyCall(String page) {
    for (Method m : ServedAhead.class.getDeclaredMethods())
      if (Modifier.isPublic(m.getModifiers()))
        hold(page.contains("." + m.getName() + "(") || page.contains("`" + m.getName() + "()`"), "it shows " + m.getName());
  }

  private static void theTests(String page) throws Exception {
    Set<String> listed = new TreeSet<>();
    Matcher row = LISTED.matcher(page);
    while (row.find()) listed.add(row.group(1));
    try (Stream<Path> files = Files.list(Path.of("src/test/java"))) {
      Set<String> there = files.map(file -> file.getFileName().toString()).collect(Collectors.toCollection(TreeSet::new));
      hold(listed.equals(there), "the tests " + listed + ", there are " + there);
    }
    hold(Files.isExecutable(Path.of(".ci/run")), ".ci/run can be run");
    hold(Files.exists(Path.of("src/test/support/EdgeCases.java")), "what tests share");
  }

  public static void main(String[] args) throws Exception {
    String page = Files.readString(Path.of("README.md"));
    theExample(page);
    theConstants(page);
    everyCall(page);
    theTests(page);
    System.out.println(asked + " sayings of README.md looked at, " + wrong + " not so");
    if (wrong != 0) System.exit(1);
  }
}
