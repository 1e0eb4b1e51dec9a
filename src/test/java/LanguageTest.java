import java.lang.reflect.Field;
import java.lang.reflect.Method;
import java.lang.reflect.Modifier;
import java.nio.file.Files;
import java.nio.file.Path;
import java.util.LinkedHashMap;
import java.util.List;
import java.util.Map;
import java.util.Set;
import java.util.TreeSet;
import java.util.regex.Matcher;
import java.util.regex.Pattern;

/** Those rules of LANGUAGE.md that can be seen from the class's members and from its lines. */
public final class LanguageTest {
  private static final Set<String> FACE = Set.of("int open(int,int)", "int close()", "int clear()",
      "boolean relabel(int,int,int)", "boolean token(int,int)", "int wipe()", "int rule(int,int)",
      "int place()", "boolean drop(int)", "int select(int)", "long number(int)", "int ruleFor(int)",
      "int transform()", "int size()", "int output(int)", "int steps()");
  private static final Set<String> CONSTANTS = Set.of("OK", "LONG", "DEEP", "SYNTAX", "BAD");
  private static final Set<Class<?>> TYPES = Set.of(int.class, long.class, short.class, byte.class,
      char.class, boolean.class, int[].class, long[].class, short[].class, byte[].class, char[].class,
      boolean[].class);
  private static final Pattern METHOD = Pattern.compile("^    (?:public|private) (?:\\w+ )?(\\w+)\\(.*\\{$");
  private static final Pattern CALL = Pattern.compile("\\b([a-zA-Z]\\w*)\\(");
  private static int wrong = 0;

  private static void expect(boolean holds, int rule, String what) {
    if (holds) return;
    wrong++;
    System.out.println("rule " + rule + ": " + what);
  }

  private static void members() {
    Class<?> c = TemplateProcessor.class;
    expect(c.getModifiers() == (Modifier.PUBLIC | Modifier.FINAL), 1, "the class is public and final");
    expect(c.getDeclaredClasses().length == 0, 1, "no nested class");
    expect(c.getDeclaredConstructors().length == 1, 1, "one constructor");
    Set<String> face = new TreeSet<>();
    Set<String> names = new TreeSet<>();
    for (Method m : c.getDeclaredMethods()) {
      String parameters = List.of(m.getParameterTypes()).stream().map(Class::getSimpleName)
          .reduce((a, b) -> a + "," + b).orElse("");
      if (Modifier.isPublic(m.getModifiers())) face.add(m.getReturnType() + " " + m.getName() + "(" + parameters + ")");
      else expect(Modifier.isPrivate(m.getModifiers()), 1, "private: " + m.getName());
      expect(names.add(m.getName()), 1, "one method of the name " + m.getName());
      expect(m.getParameterCount() <= 7, 10, "seven parameters: " + m.getName());
      expect(!m.getReturnType().isArray(), 4, "no array answered: " + m.getName());
    }
    expect(face.equals(FACE), 1, "the public methods are those of the document, not " + face);
    int objectFields = 0;
    for (Field f : c.getDeclaredFields()) {
      boolean constant = Modifier.isStatic(f.getModifiers());
      boolean shown = CONSTANTS.contains(f.getName());
      expect(shown ? Modifier.isPublic(f.getModifiers()) : Modifier.isPrivate(f.getModifiers()), 1, f.getName());
      expect(TYPES.contains(f.getType()), 2, "type of " + f.getName());
      if (!constant) objectFields++;
      else expect(Modifier.isFinal(f.getModifiers()) && !f.getType().isArray(), 5, "constant " + f.getName());
    }
    expect(objectFields <= 40, 10, "forty fields");
  }

  private static void words(List<String> lines) {
    Pattern banned = Pattern.compile("\\b(import|package|null|throw|throws|try|catch|synchronized|assert|instanceof"
        + "|float|double|String|Object|Math|Integer|Long|System|Arrays|class|interface|enum|record|var)\\b|->|::|\"");
    for (String line : lines) {
      Matcher m = banned.matcher(line);
      if (m.find() && !line.equals("public final class TemplateProcessor {")) expect(false, 3, line);
      if (line.contains("new ")) {
        expect(line.matches("    private final \\w+\\[\\] \\w+ = new \\w+\\[[A-Z_]+\\];"), 4, line);
      }
      if (line.contains("while")) expect(line.contains(" < "), 8, "a counter against a bound: " + line);
    }
  }

  private static Map<String, List<String>> methods(List<String> lines) {
    Map<String, List<String>> found = new LinkedHashMap<>();
    for (int k = 0; k < lines.size(); k++) {
      Matcher m = METHOD.matcher(lines.get(k));
      if (!m.matches()) continue;
      int end = k;
      while (!lines.get(end).equals("    }")) end++;
      found.put(m.group(1), lines.subList(k + 1, end));
      expect(end - k < 60, 10, "sixty lines: " + m.group(1));
    }
    return found;
  }

  /** How many methods are at work within one another below this one, itself counted. */
  private static int depth(Map<String, List<String>> methods, String name, String above) {
    String chain = above + " > " + name;
    if (above.contains(" > " + name + " > ") || above.endsWith(" > " + name)) {
      expect(false, 8, "recursion:" + chain);
      return 0;
    }
    int deepest = 0;
    for (String line : methods.get(name)) {
      Matcher m = CALL.matcher(line);
      while (m.find()) {
        if (methods.containsKey(m.group(1))) deepest = Math.max(deepest, depth(methods, m.group(1), chain));
      }
    }
    return deepest + 1;
  }

  private static void nestedCalls(List<String> body, Set<String> names) {
    String text = String.join(" ", body);
    Matcher m = CALL.matcher(text);
    while (m.find()) {
      if (!names.contains(m.group(1))) continue;
      int open = 1;
      int end = m.end();
      for (; open > 0; end++) open += text.charAt(end) == '(' ? 1 : text.charAt(end) == ')' ? -1 : 0;
      Matcher inner = CALL.matcher(text.substring(m.end(), end));
      while (inner.find()) expect(!names.contains(inner.group(1)), 10, "a call inside " + m.group(1) + "(..)");
    }
  }

  public static void main(String[] args) throws Exception {
    String source = Files.readString(Path.of("src/main/java/TemplateProcessor.java"));
    List<String> lines = source.replaceAll("(?s)/\\*.*?\\*/", "").replaceAll("//.*", "").lines().toList();
    members();
    words(lines);
    Map<String, List<String>> methods = methods(lines);
    expect(methods.size() > FACE.size(), 1, "the methods are found in the lines");
    for (String name : methods.keySet()) {
      expect(depth(methods, name, "") <= 6, 10, "six deep: " + name);
      nestedCalls(methods.get(name), methods.keySet());
    }
    System.out.println(wrong == 0 ? "the language is kept to" : wrong + " rules are broken");
    if (wrong != 0) System.exit(1);
  }
}
