import java.lang.reflect.Field;
import java.lang.reflect.Method;
import java.lang.reflect.Modifier;
import java.nio.file.Files;
import java.nio.file.Path;
import java.util.ArrayList;
import java.util.LinkedHashMap;
import java.util.List;
import java.util.Map;
import java.util.Set;
import java.util.TreeMap;
import java.util.TreeSet;
import java.util.regex.Matcher;
import java.util.regex.Pattern;

/** Those rules of LANGUAGE.md that can be seen from the class's members and from its text. */
public final class LanguageTest {
  private static final Set<String> FACE = Set.of("int open(int,int)", "int close()", "int clear()",
      "boolean relabel(int,int,int)", "boolean token(int,int)", "int wipe()", "int rule(int,int)",
      "int place()", "boolean drop(int)", "int select(int)", "long number(int)", "int ruleFor(int)",
      "int transform()", "int size()", "int output(int)", "int steps()");
  private static final Map<String, Integer> CONSTANTS = Map.of("OK", 0, "LONG", 1, "DEEP", 2, "SYNTAX", 3, "BAD", -1);
  private static final Set<Class<?>> TYPES = Set.of(int.class, long.class, short.class, byte.class,
      char.class, boolean.class, int[].class, long[].class, short[].class, byte[].class, char[].class,
      boolean[].class);
  private static final Pattern BANNED = Pattern.compile("\\b(import|package|null|throw|throws|try|catch|synchronized"
      + "|assert|instanceof|float|double|String|Object|Math|Integer|Long|System|Arrays|interface|enum|var)\\b|::|\"");
  private static final Pattern CALL = Pattern.compile("\\b([a-zA-Z]\\w*)\\s*\\(");
  private static final Pattern NEW = Pattern.compile("\\bnew\\b\\s*(\\w+\\s*\\[[A-Z0-9_ ]+\\](?!\\s*\\[))?");

  private static final List<String> fields = new ArrayList<>();
  private static final Map<String, String> bodies = new LinkedHashMap<>();

  private LanguageTest() { }

  private static void expect(boolean holds, int rule, String what) {
    if (!holds) Check.tell("rule " + rule + ": " + what);
  }

  private static String parameters(Method m) {
    List<String> names = new ArrayList<>();
    for (Class<?> type : m.getParameterTypes()) names.add(type.getSimpleName());
    return String.join(",", names);
  }

  private static void methodMembers() {
    Set<String> shown = new TreeSet<>();
    Set<String> hidden = new TreeSet<>();
    Set<String> face = new TreeSet<>();
    for (Method m : TemplateProcessor.class.getDeclaredMethods()) {
      expect(m.getParameterCount() <= 7, 10, "seven parameters: " + m.getName());
      expect(!m.getReturnType().isArray(), 4, "no array answered: " + m.getName());
      if (Modifier.isPublic(m.getModifiers())) {
        shown.add(m.getName());
        face.add(m.getReturnType() + " " + m.getName() + "(" + parameters(m) + ")");
      } else {
        hidden.add(m.getName());
        expect(Modifier.isPrivate(m.getModifiers()), 1, "private: " + m.getName());
      }
    }
    expect(face.equals(FACE), 1, "the public methods are those of the document, not " + face);
    hidden.retainAll(shown);
    expect(hidden.isEmpty(), 1, "private methods with the name of a public one: " + hidden);
  }

  private static void fieldMembers() throws IllegalAccessException {
    int objectFields = 0;
    Map<String, Integer> shown = new TreeMap<>();
    for (Field f : TemplateProcessor.class.getDeclaredFields()) {
      boolean constant = Modifier.isStatic(f.getModifiers());
      expect(TYPES.contains(f.getType()), 2, "type of " + f.getName());
      if (constant && Modifier.isPublic(f.getModifiers())) shown.put(f.getName(), f.getInt(null));
      else expect(Modifier.isPrivate(f.getModifiers()), 1, "private: " + f.getName());
      if (!constant) objectFields++;
      else expect(Modifier.isFinal(f.getModifiers()) && !f.getType().isArray(), 5, "constant " + f.getName());
    }
    expect(shown.equals(CONSTANTS), 1, "the public constants are those of the document, not " + shown);
    expect(objectFields <= 40, 10, "forty fields");
  }

  private static void members() throws IllegalAccessException {
    Class<?> c = TemplateProcessor.class;
    expect(c.getModifiers() == (Modifier.PUBLIC | Modifier.FINAL), 1, "the class is public and final");
    expect(c.getDeclaredClasses().length == 0, 1, "no nested class");
    expect(c.getDeclaredConstructors().length == 1, 1, "one constructor");
    methodMembers();
    fieldMembers();
  }

  /** Splits what stands between the class's braces into fields and methods. */
  private static void split(String text) {
    int begin = text.indexOf('{') + 1;
    int depth = 1;
    int bodyAt = 0;
    for (int at = begin; at < text.length() && depth > 0; at++) {
      char c = text.charAt(at);
      if (c == '{' && ++depth == 2) bodyAt = at + 1;
      if (c == '}' && --depth == 1) {
        addMethod(text.substring(begin, bodyAt), text.substring(bodyAt, at));
        begin = at + 1;
      }
      if (c == ';' && depth == 1) {
        fields.add(text.substring(begin, at));
        begin = at + 1;
      }
    }
  }

  private static void addMethod(String head, String body) {
    Matcher m = CALL.matcher(head);
    if (m.find()) bodies.merge(m.group(1), body, (one, other) -> one + other);
    else expect(false, 5, "a block that is no method: " + head.trim());
  }

  private static void words(String text) {
    Matcher m = BANNED.matcher(text);
    while (m.find()) expect(false, 3, "not of the language: " + m.group());
  }

  private static void arrays() {
    for (String field : fields) expect(newIsPlain(field), 4, "an array with a constant length: " + field.trim());
    bodies.forEach((name, body) -> {
      boolean constructor = name.equals("TemplateProcessor");
      expect(constructor ? newIsPlain(body) : !NEW.matcher(body).find(), 4, "made in " + name);
    });
  }

  private static boolean newIsPlain(String text) {
    Matcher m = NEW.matcher(text);
    while (m.find()) if (m.group(1) == null) return false;
    return true;
  }

  /** How many methods are at work within one another below this one, itself counted. */
  private static int depth(String name, String above) {
    if (above.contains(" > " + name + " >")) {
      expect(false, 8, "recursion:" + above + " " + name);
      return 0;
    }
    int deepest = 0;
    Matcher m = CALL.matcher(bodies.get(name));
    while (m.find()) {
      if (bodies.containsKey(m.group(1))) deepest = Math.max(deepest, depth(m.group(1), above + " " + name + " >"));
    }
    return deepest + 1;
  }

  private static void nestedCalls(String text) {
    Matcher m = CALL.matcher(text);
    while (m.find()) {
      if (!bodies.containsKey(m.group(1))) continue;
      int open = 1;
      int end = m.end();
      for (; open > 0; end++) open += text.charAt(end) == '(' ? 1 : text.charAt(end) == ')' ? -1 : 0;
      Matcher inner = CALL.matcher(text.substring(m.end(), end));
      while (inner.find()) expect(!bodies.containsKey(inner.group(1)), 10, "a call inside " + m.group(1) + "(..)");
    }
  }

  private static void methods() {
    bodies.forEach((name, body) -> {
      expect(body.lines().count() <= 65, 10, "some sixty lines: " + name);
      expect(depth(name, " >") <= 6, 10, "six deep: " + name);
      nestedCalls(body);
    });
  }

  public static void main(String[] args) throws Exception {
    Check.about("LANGUAGE.md");
    String source = Files.readString(Path.of("src/main/java/TemplateProcessor.java"));
    String text = source.replaceAll("(?s)/\\*.*?\\*/", "").replaceAll("//.*", "");
    split(text);
    expect(bodies.size() > FACE.size(), 1, "the methods are found in the text");
    members();
    words(text);
    arrays();
    methods();
    Check.end("the language is kept to");
  }
}
