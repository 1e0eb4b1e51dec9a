/**
 * A processor under test. Its calls are counted, since nothing is promised of an object after its
 * 512th; the checks in words go through the same calls.
 */
final class Probe {
  static final int OK = 0, LONG = 1, DEEP = 2, SYNTAX = 3, BAD = -1;
  static final int MIN = Integer.MIN_VALUE, MAX = Integer.MAX_VALUE;
  static final long NO_NODE = Long.MIN_VALUE, NO_NUMBER = Long.MIN_VALUE + 1;
  private static final int CALLS = 512;

  private final TemplateProcessor x = new TemplateProcessor();
  private int calls = 0;

  private TemplateProcessor call() {
    calls++;
    if (calls > CALLS) throw new IllegalStateException("the test makes more than 512 calls on one object");
    return x;
  }

  int calls() { return calls; }

  int open(int name, int value) { return call().open(name, value); }
  int close() { return call().close(); }
  int clear() { return call().clear(); }
  boolean relabel(int node, int name, int value) { return call().relabel(node, name, value); }
  boolean token(int kind, int value) { return call().token(kind, value); }
  int wipe() { return call().wipe(); }
  int rule(int r, int priority) { return call().rule(r, priority); }
  int place() { return call().place(); }
  boolean drop(int r) { return call().drop(r); }
  int select(int node) { return call().select(node); }
  long number(int node) { return call().number(node); }
  int ruleFor(int node) { return call().ruleFor(node); }
  int transform() { return call().transform(); }
  int size() { return call().size(); }
  int output(int k) { return call().output(k); }
  int steps() { return call().steps(); }

  static Probe of(String document) {
    Probe p = new Probe();
    Notation.build(p, document);
    return p;
  }

  /** A root of name 0 and value 0, still open, and 23 closed children of name 1 with the values 1 to 23. */
  static Probe flat() {
    Probe p = new Probe();
    p.open(0, 0);
    for (int k = 1; k < 24; k++) {
      p.open(1, k);
      p.close();
    }
    return p;
  }

  /** Nodes each within the one ahead of it, all open, their values their numbers; the last has name 1, the others 0. */
  static Probe chain(int nodes) {
    Probe p = new Probe();
    for (int k = 0; k < nodes; k++) p.open(k == nodes - 1 ? 1 : 0, k);
    return p;
  }

  Probe draft(String words) {
    Notation.draft(this, words);
    return this;
  }

  void selects(String path, int node, int... nodes) {
    int set = 0;
    for (int k : nodes) set |= 1 << k;
    draft(path);
    Check.due(path + " from " + node, select(node), set);
  }

  void isNumber(String words, int node, long want) {
    draft(words);
    Check.due(words + " for " + node, number(node), want);
  }

  void gives(int r, int priority, String words) {
    draft(words);
    Check.due("rule " + r + " " + words, rule(r, priority), OK);
  }

  void puts(int outcome, int steps, int... numbers) {
    Check.due("transform", transform(), outcome);
    Check.due("steps", steps(), steps);
    Check.due("size", size(), numbers.length);
    for (int k = 0; k < numbers.length && k < 60; k++) Check.due("output " + k, output(k), numbers[k]);
    Check.due("output behind the last", output(numbers.length), 0);
  }

  void noRule(String words, int place) {
    draft(words);
    Check.due("rule of " + words, rule(0, 0), SYNTAX);
    Check.due("place in " + words, place(), place);
  }

  void noPath(String words, int place) {
    draft(words);
    Check.due("select of " + words, select(0), -SYNTAX);
    Check.due("place in " + words, place(), place);
  }

  void noNumber(String words, int place) {
    draft(words);
    Check.due("number of " + words, number(0), NO_NUMBER);
    Check.due("place in " + words, place(), place);
  }
}
