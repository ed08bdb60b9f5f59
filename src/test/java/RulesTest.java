import java.lang.reflect.Constructor;
import java.lang.reflect.Field;
import java.lang.reflect.Method;
import java.lang.reflect.Modifier;
import java.nio.file.Files;
import java.nio.file.Path;
import java.util.ArrayList;
import java.util.List;
import java.util.Set;
import java.util.TreeSet;
import java.util.regex.Matcher;
import java.util.regex.Pattern;

// What can be seen of LANGUAGE.md and of the document's face in the class and in its text.
public final class RulesTest {
  private static final Path SOURCE = Path.of("src/main/java/ServedAhead.java");
  private static final Set<String> FACE = new TreeSet<>(List.of(
      "int letter(int)", "int blank()", "int fault()", "int law()", "int deed(int,int)",
      "int person(int)", "int about(int,int)", "int as(int,int)", "int may(int,int)",
      "int act(int,int)", "int week()", "int sell(int,int,int)", "int leave(int,int)",
      "int amnesty()", "int gain(int,int,int)", "int soon(int,int)", "int kept(int)",
      "int book(int)", "int next(int)", "int ways()", "int owed()", "int years(int,int,int)",
      "int image()", "int restore()", "int count(int)", "long digest()"));
  private static int wrong = 0;

  private static void hold(boolean holds, String what) {
    if (!holds) {
      wrong++;
      System.out.println("not so: " + what);
    }
  }

  private static String shape(Method m) {
    List<String> types = new ArrayList<>();
    for (Class<?> type : m.getParameterTypes()) types.add(type.getSimpleName());
    return m.getReturnType().getSimpleName() + " " + m.getName() + "(" + String.join(",", types) + ")";
  }

  private static void theFace() {
    Class<ServedAhead> c = ServedAhead.class;
    hold(Modifier.isPublic(c.getModifiers()) && Modifier.isFinal(c.getModifiers()), "the class is public and final");
    Set<String> open = new TreeSet<>();
    for (Method m : c.getDeclaredMethods())
      if (!Modifier.isPrivate(m.getModifiers())) {
        open.add(shape(m));
        hold(Modifier.isPublic(m.getModifiers()), m.getName() + " is public or private");
      }
    hold(open.equals(FACE), "the methods are those of the face: " + open);
    Set<String> constants = new TreeSet<>();
    for (Field f : c.getDeclaredFields())
      if (!Modifier.isPrivate(f.getModifiers())) constants.add(f.getName());
    hold(constants.equals(new TreeSet<>(List.of("NONE", "UNKNOWN", "OUTSIDE", "STATE", "FULL"))), "the constants: " + constants);
    Constructor<?>[] makers = c.getDeclaredConstructors();
    hold(makers.length == 1 && makers[0].getParameterCount() == 0 && Modifier.isPublic(makers[0].getModifiers()), "the constructor");
    theClassesInside(c);
  }

  private static void theClassesInside(Class<?> c) {
    Class<?>[] inside = c.getDeclaredClasses();
    hold(inside.length <= 11, "twelve classes at most");
    for (Class<?> one : inside) {
      int m = one.getModifiers();
      hold(Modifier.isStatic(m) && !Modifier.isPublic(m) && !Modifier.isProtected(m), one.getName() + " is static and not open");
    }
  }

  /** Rules 1, 2, 5 and 11, of the class and of those inside it. */
  private static void eachClass(Class<?> c) {
    int fields = 0;
    for (Field f : c.getDeclaredFields()) {
      if (Modifier.isStatic(f.getModifiers())) staticField(c, f);
      else {
        fields++;
        hold(!c.isEnum() || Set.of("int", "long", "boolean", "String").contains(f.getType().getSimpleName()), "an enum's field " + f);
      }
    }
    hold(fields <= 20, c.getName() + " has twenty fields at most, not " + fields);
    for (Method m : c.getDeclaredMethods()) {
      hold(m.getParameterCount() <= 7, m + " takes seven parameters at most");
      hold(!Modifier.isPrivate(m.getModifiers()) || m.isSynthetic()
          || FACE.stream().noneMatch(shape -> shape.contains(" " + m.getName() + "(")), m + " has a name of its own");
    }
    for (Class<?> inside : c.getDeclaredClasses()) eachClass(inside);
  }

  private static void staticField(Class<?> c, Field f) {
    String type = f.getType().getSimpleName();
    boolean ofEnum = c.isEnum() && (f.getType() == c || f.getType() == c.arrayType());
    hold(Modifier.isFinal(f.getModifiers()), "static " + f + " is final");
    hold(ofEnum || Set.of("int", "long", "boolean", "char", "String", "int[]", "long[]", "char[]", "byte[]").contains(type),
        "static " + f + " is of a type that may be");
  }

  private static String withoutComments(String text) {
    return text.replaceAll("(?s)/\\*.*?\\*/", "").replaceAll("//[^\n]*", "");
  }

  private static void theText() throws Exception {
    String text = withoutComments(Files.readString(SOURCE));
    String[] banned = {"import", "package", "try", "catch", "finally", "throw", "synchronized", "assert",
        "System", "Thread", "Object", "equals", "hashCode", "toString", "ordinal", "\\w+Exact", "\\w*Exception"};
    for (String word : banned) hold(!Pattern.compile("\\b" + word + "\\b").matcher(text).find(), "no " + word);
    hold(!text.contains("->") && !text.contains("::"), "no lambda, no method reference");
    hold(!Pattern.compile("while \\(true|for \\([^;)]*; *;").matcher(text).find(), "each loop has an end");
    Pattern made = Pattern.compile("private final \\w+(\\[\\])? \\w+ = new [^;]*;|(all|rows)\\[\\w+\\] = new Person\\(\\);");
    for (String line : text.split("\n"))
      if (line.contains("new ")) hold(made.matcher(line.trim()).matches(), "made with its object alone: " + line.trim());
    Matcher ends = Pattern.compile("(?m)^(    |        )(?:public|private|static|int|void|boolean|long|Kind|Person|[A-Z]\\w+\\()[^;={]*\\{\n(?s:.*?)\n\\1\\}").matcher(text);
    while (ends.find()) {
      boolean isClass = ends.group().matches("(?s)\\s*private (static final class|enum).*");
      if (!isClass) hold(ends.group().lines().count() <= 60, "sixty lines at most: " + ends.group().lines().findFirst().get().trim());
    }
  }

  public static void main(String[] args) throws Exception {
    theFace();
    eachClass(ServedAhead.class);
    theText();
    System.out.println(wrong == 0 ? "the rules hold" : wrong + " rules do not hold");
    if (wrong != 0) System.exit(1);
  }
}
