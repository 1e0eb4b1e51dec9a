import java.io.IOException;
import java.nio.file.Files;
import java.nio.file.Path;
import java.util.LinkedHashMap;
import java.util.Map;

/**
 * The document's sentences with the tests beside them. Each sentence quoted is looked for in the
 * document, and each word of the document must stand in a sentence quoted, so that no sentence is
 * left without a test.
 */
final class Sentences {
  private static final Path DOCUMENT = Path.of("../shared/DOC.md");
  private static final Map<String, StringBuilder> unquoted = new LinkedHashMap<>();
  private static boolean documentRead = false;
  private static String section = "";
  private static int tested = 0;

  private Sentences() { }

  /** Where the document is not at hand the tests run all the same. */
  static void readDocument() throws IOException {
    if (!Files.exists(DOCUMENT)) return;
    documentRead = true;
    String heading = "";
    for (String line : Files.readAllLines(DOCUMENT)) {
      if (line.startsWith("#")) {
        heading = line.replaceFirst("^#+ ", "");
        unquoted.put(heading, new StringBuilder());
      } else if (!line.startsWith("```")) {
        // the call that heads a promise says nothing beside the sentences
        unquoted.get(heading).append(line.replaceFirst("^`.*?`: ", "")).append(' ');
      }
    }
    unquoted.remove("The public face");
    unquoted.replaceAll((name, text) -> new StringBuilder(text.toString().replaceAll("\\s+", " ").trim()));
  }

  static void section(String name) { section = name; }

  static void holds(String sentence, Runnable test) {
    tested++;
    quote(sentence);
    Check.run(test);
  }

  /** A sentence that says nothing that an answer could break. */
  static void promisesNothing(String sentence) { quote(sentence); }

  private static void quote(String sentence) {
    Check.about(section + ", \"" + sentence + "\"");
    if (!documentRead) return;
    StringBuilder text = unquoted.getOrDefault(section, new StringBuilder());
    int at = text.indexOf(sentence);
    if (at < 0) Check.tell("not found in the document");
    else text.replace(at, at + sentence.length(), "|");
  }

  static void end() {
    unquoted.forEach((name, text) -> {
      Check.about(name);
      String left = text.toString().replace("|", " ").trim();
      if (!left.isEmpty()) Check.tell("no test beside: " + left);
    });
    Check.end("all " + tested + " sentences hold");
  }
}
