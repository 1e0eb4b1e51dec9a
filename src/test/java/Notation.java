import java.util.List;
import java.util.stream.Stream;

/** Documents and drafts in words, so that the tests can be read. */
final class Notation {
  private static final List<String> KINDS = List.of("num", "pos", "last", "own", "count", "sum", "first",
      "add", "sub", "mul", "less", "same", "and", "or", "not", "step", "[", "]", "-", "-",
      "text", "element", "value", "apply", "if", "each", "end");
  private static final List<String> AXES = List.of("self", "child", "parent", "descendant", "ancestor",
      "next", "before", "behind", "ahead");

  private Notation() { }

  /** The names of all kinds and all axes. */
  static List<String> words() {
    return Stream.concat(KINDS.stream(), AXES.stream()).filter(word -> !word.equals("-")).toList();
  }

  /** Of a kind or an axis; -1 if it is neither. */
  static int numberOf(String word) {
    return AXES.contains(word) ? AXES.indexOf(word) : KINDS.indexOf(word);
  }

  /** "7" is a NUM, "child:2" and "child:*" are STEPs, "text:5" and "element:1" have a value. */
  static int[] token(String word) {
    if (word.matches("-?[0-9]+")) return new int[] {0, Integer.parseInt(word)};
    String[] parts = word.split(":");
    if (parts.length == 1) return new int[] {KINDS.indexOf(word), 0};
    if (!AXES.contains(parts[0])) return new int[] {KINDS.indexOf(parts[0]), Integer.parseInt(parts[1])};
    int test = parts[1].equals("*") ? 6 : Integer.parseInt(parts[1]);
    return new int[] {15, 8 * AXES.indexOf(parts[0]) + test};
  }

  static void draft(Probe x, String words) {
    x.wipe();
    for (String word : words.split(" ")) {
      if (word.isEmpty()) continue;
      int[] token = token(word);
      if (!x.token(token[0], token[1])) throw new IllegalStateException("not taken: " + word);
    }
  }

  /** "1=5" opens a node with name 1 and value 5, "." closes one. */
  static void build(Probe x, String words) {
    x.clear();
    for (String word : words.split(" ")) {
      if (word.equals(".")) {
        x.close();
      } else {
        String[] parts = word.split("=");
        x.open(Integer.parseInt(parts[0]), Integer.parseInt(parts[1]));
      }
    }
  }
}
