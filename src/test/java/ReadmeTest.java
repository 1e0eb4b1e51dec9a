import java.lang.reflect.Method;
import java.lang.reflect.Modifier;
import java.nio.file.Files;
import java.nio.file.Path;
import java.util.ArrayList;
import java.util.Arrays;
import java.util.List;
import java.util.Set;
import java.util.TreeSet;
import java.util.regex.Matcher;
import java.util.regex.Pattern;

/** What README.md shows: the answers its example names, and the numbers of the kinds and axes. */
public final class ReadmeTest {
  private static final Path README = Path.of("README.md");
  private static final String MADE = "TemplateProcessor x = new TemplateProcessor();";
  /** A call, and behind it its answer and perhaps a colon and what it means. */
  private static final Pattern CALL = Pattern.compile("x\\.(\\w+)\\((.*)\\);\\s+// ([^:]+)(: .*)?");
  private static final Pattern NUMBERED = Pattern.compile("\\b(\\d+) ([A-Z]{2,}\\b|\\[|\\])");

  private static final Set<String> shown = new TreeSet<>();
  private static TemplateProcessor x = null;
  private static int calls = 0;

  private ReadmeTest() { }

  private static List<String> example(List<String> readme) {
    List<String> lines = new ArrayList<>();
    boolean inside = false;
    for (String line : readme) {
      if (line.startsWith("```")) inside = line.equals("```java");
      else if (inside && !line.isBlank()) lines.add(line);
    }
    return lines;
  }

  private static void follow(String line) throws ReflectiveOperationException {
    Check.about("README.md, " + line);
    Matcher call = CALL.matcher(line);
    if (line.equals(MADE)) {
      x = new TemplateProcessor();
      calls = 0;
    } else if (x == null || !call.matches()) {
      Check.tell("neither makes the object nor is a call with its answer");
    } else {
      calls++;
      if (calls > 512) Check.tell("the 512 calls are over");
      shown.add(call.group(1));
      Object answer = answer(call.group(1), call.group(2));
      boolean same = answer instanceof Boolean ? answer.toString().equals(call.group(3))
          : ((Number) answer).longValue() == worth(call.group(3));
      if (!same) Check.tell("answered " + answer);
    }
  }

  private static Object answer(String name, String arguments) throws ReflectiveOperationException {
    Integer[] numbers = Arrays.stream(arguments.split(",")).filter(argument -> !argument.isBlank())
        .map(argument -> (int) worth(argument)).toArray(Integer[]::new);
    Class<?>[] types = new Class<?>[numbers.length];
    Arrays.fill(types, int.class);
    return TemplateProcessor.class.getMethod(name, types).invoke(x, (Object[]) numbers);
  }

  /** Sums of products, as in "8 * 1 + 6" and "BAD - 1". */
  private static long worth(String expression) {
    long sum = 0;
    for (String term : expression.replace(" ", "").split("\\+|(?=-)")) {
      long product = term.startsWith("-") ? -1 : 1;
      for (String factor : term.replaceFirst("^-", "").split("\\*")) product *= worthOfWord(factor);
      sum += product;
    }
    return sum;
  }

  private static long worthOfWord(String word) {
    switch (word) {
      case "OK": return TemplateProcessor.OK;
      case "LONG": return TemplateProcessor.LONG;
      case "DEEP": return TemplateProcessor.DEEP;
      case "SYNTAX": return TemplateProcessor.SYNTAX;
      case "BAD": return TemplateProcessor.BAD;
      default: return Long.parseLong(word);
    }
  }

  /** A user finds every method in the example. */
  private static void everyMethod() {
    Check.about("README.md's example");
    for (Method method : TemplateProcessor.class.getDeclaredMethods()) {
      boolean isPublic = Modifier.isPublic(method.getModifiers());
      if (isPublic && !shown.contains(method.getName())) Check.tell("does not show " + method.getName());
    }
  }

  private static void numbers(List<String> readme) {
    Check.about("README.md's kinds and axes");
    Set<String> named = new TreeSet<>();
    for (String line : readme) {
      Matcher pair = NUMBERED.matcher(line);
      while (pair.find()) {
        String word = pair.group(2).toLowerCase();
        named.add(word);
        Check.due(word, Integer.parseInt(pair.group(1)), Notation.numberOf(word));
      }
    }
    for (String word : Notation.words()) {
      if (!named.contains(word)) Check.tell("no number of " + word);
    }
  }

  public static void main(String[] args) throws Exception {
    Check.about("README.md");
    Check.begin(300);
    List<String> readme = Files.readAllLines(README);
    for (String line : example(readme)) {
      try {
        follow(line);
      } catch (ReflectiveOperationException | NumberFormatException wrong) {
        Check.tell("not to be followed: " + wrong);
      }
    }
    everyMethod();
    numbers(readme);
    Check.end("what README.md shows holds");
  }
}
