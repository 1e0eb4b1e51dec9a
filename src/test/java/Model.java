import java.util.ArrayList;
import java.util.Collections;
import java.util.List;
import java.util.TreeSet;

/**
 * The document's words told once more, with recursion, lists and no eye on speed: what the program
 * answers is compared with it.
 */
final class Model {
  private static final class Node {
    int number;
    int name;
    int value;
    Node parent;
    final List<Node> children = new ArrayList<>();

    boolean isUnder(Node other) {
      for (Node n = parent; n != null; n = n.parent) if (n == other) return true;
      return false;
    }
  }

  private static final class Rule {
    List<int[]> tokens;
    int priority;
    int given;
  }

  private static final class Wrong extends RuntimeException {
    private static final long serialVersionUID = 1;
    final int at;
    Wrong(int at) { this.at = at; }
  }

  private static final class Ended extends RuntimeException {
    private static final long serialVersionUID = 1;
    final int outcome;
    Ended(int outcome) { this.outcome = outcome; }
  }

  private final List<Node> nodes = new ArrayList<>();
  private Node innermost;
  private List<int[]> draft = new ArrayList<>();
  private final Rule[] rules = new Rule[6];
  private int given;
  private int place = -1;
  private final List<Integer> outputs = new ArrayList<>();
  private int steps;

  int open(int name, int value) {
    if (name < 0 || name > 5 || nodes.size() == 24) return -1;
    if (!nodes.isEmpty() && innermost == null) return -1;
    Node node = new Node();
    node.number = nodes.size();
    node.name = name;
    node.value = value;
    node.parent = innermost;
    if (innermost != null) innermost.children.add(node);
    innermost = node;
    nodes.add(node);
    return node.number;
  }

  int close() {
    if (innermost == null) return -1;
    int number = innermost.number;
    innermost = innermost.parent;
    return number;
  }

  int clear() {
    int size = nodes.size();
    nodes.clear();
    innermost = null;
    return size;
  }

  boolean relabel(int node, int name, int value) {
    if (!has(node) || name < 0 || name > 5) return false;
    nodes.get(node).name = name;
    nodes.get(node).value = value;
    return true;
  }

  boolean token(int kind, int value) {
    if (kind < 0 || kind > 26 || kind == 18 || kind == 19 || draft.size() == 30) return false;
    if (kind == 21 && (value < 0 || value > 5)) return false;
    if (kind == 15) {
      boolean named = false;
      for (int axis = 0; axis <= 8; axis++) {
        for (int test = 0; test <= 6; test++) named |= value == 8 * axis + test;
      }
      if (!named) return false;
    }
    draft.add(new int[] {kind, value});
    return true;
  }

  int wipe() {
    int size = draft.size();
    draft = new ArrayList<>();
    return size;
  }

  int rule(int r, int priority) {
    if (r < 0 || r > 5) return -1;
    List<int[]> tokens = draft;
    draft = new ArrayList<>();
    try {
      int end = body(tokens, path(tokens, 0, true));
      if (end < tokens.size()) throw new Wrong(end);
    } catch (Wrong wrong) {
      place = wrong.at;
      return 3;
    }
    rules[r] = new Rule();
    rules[r].tokens = tokens;
    rules[r].priority = priority;
    rules[r].given = given++;
    return 0;
  }

  int place() { return place; }

  boolean drop(int r) {
    if (r < 0 || r > 5) return false;
    boolean there = rules[r] != null;
    rules[r] = null;
    return there;
  }

  int select(int node) {
    if (!has(node)) return -1;
    try {
      int end = path(draft, 0, true);
      if (end < draft.size()) throw new Wrong(end);
    } catch (Wrong wrong) {
      place = wrong.at;
      return -3;
    }
    int sum = 0;
    for (Node n : selected(draft, 0, nodes.get(node))) sum += 1 << n.number;
    return sum;
  }

  long number(int node) {
    if (!has(node)) return Long.MIN_VALUE;
    try {
      int end = number(draft, 0, true);
      if (end < draft.size()) throw new Wrong(end);
    } catch (Wrong wrong) {
      place = wrong.at;
      return Long.MIN_VALUE + 1;
    }
    return worth(draft, 0, nodes.get(node), 1, 1);
  }

  int ruleFor(int node) {
    return has(node) ? ruleFor(nodes.get(node)) : -2;
  }

  int transform() {
    outputs.clear();
    steps = 0;
    if (nodes.isEmpty()) return -1;
    try {
      handle(List.of(nodes.get(0)), 1);
    } catch (Ended ended) {
      return ended.outcome;
    }
    return 0;
  }

  int size() { return outputs.size(); }

  int output(int k) { return k >= 0 && k < 60 && k < outputs.size() ? outputs.get(k) : 0; }

  int steps() { return steps; }

  int openNodes() {
    int open = 0;
    for (Node n = innermost; n != null; n = n.parent) open++;
    return open;
  }

  private boolean has(int node) { return node >= 0 && node < nodes.size(); }

  // Each of these answers the index behind what begins at the index given.

  private static int kind(List<int[]> tokens, int at) {
    return at < tokens.size() ? tokens.get(at)[0] : -1;
  }

  private static int only(List<int[]> tokens, int at, int kind) {
    if (kind(tokens, at) != kind) throw new Wrong(at);
    return at + 1;
  }

  private static int path(List<int[]> tokens, int at, boolean conditions) {
    at = only(tokens, at, 15);
    while (conditions && kind(tokens, at) == 16) at = only(tokens, number(tokens, at + 1, false), 17);
    return kind(tokens, at) == 15 ? path(tokens, at, conditions) : at;
  }

  private static int number(List<int[]> tokens, int at, boolean conditions) {
    int kind = kind(tokens, at);
    if (kind < 0 || kind > 14) throw new Wrong(at);
    if (kind <= 3) return at + 1;
    if (kind <= 6) return path(tokens, at + 1, conditions);
    int first = number(tokens, at + 1, conditions);
    return kind == 14 ? first : number(tokens, first, conditions);
  }

  private static int body(List<int[]> tokens, int at) {
    while (true) {
      switch (kind(tokens, at)) {
        case 20: at++; break;
        case 21: at = only(tokens, body(tokens, at + 1), 26); break;
        case 22: at = number(tokens, at + 1, true); break;
        case 23: at = path(tokens, at + 1, true); break;
        case 24: at = only(tokens, body(tokens, number(tokens, at + 1, true)), 26); break;
        case 25: at = only(tokens, body(tokens, path(tokens, at + 1, true)), 26); break;
        default: return at;
      }
    }
  }

  private boolean isOnAxis(int axis, Node from, Node n) {
    switch (axis) {
      case 0: return n == from;
      case 1: return n.parent == from;
      case 2: return n == from.parent;
      case 3: return n.isUnder(from);
      case 4: return from.isUnder(n);
      case 5: return from.parent != null && n.parent == from.parent && n.number > from.number;
      case 6: return from.parent != null && n.parent == from.parent && n.number < from.number;
      case 7: return n.number > from.number && !n.isUnder(from);
      default: return n.number < from.number && !from.isUnder(n);
    }
  }

  private List<Node> step(List<int[]> tokens, int at, Node from) {
    int axis = tokens.get(at)[1] / 8;
    int test = tokens.get(at)[1] % 8;
    List<Node> list = new ArrayList<>();
    for (Node n : nodes) if (isOnAxis(axis, from, n) && (test == 6 || n.name == test)) list.add(n);
    if (axis == 2 || axis == 4 || axis == 6 || axis == 8) Collections.reverse(list);
    for (int c = at + 1; kind(tokens, c) == 16; c = number(tokens, c + 1, false) + 1) {
      List<Node> kept = new ArrayList<>();
      for (int k = 0; k < list.size(); k++) {
        if (worth(tokens, c + 1, list.get(k), k + 1, list.size()) != 0) kept.add(list.get(k));
      }
      list = kept;
    }
    return list;
  }

  /** In the order of the document. Conditions have none inside, so the next ] is the end of one. */
  private List<Node> selected(List<int[]> tokens, int at, Node from) {
    TreeSet<Integer> found = new TreeSet<>(List.of(from.number));
    while (kind(tokens, at) == 15) {
      TreeSet<Integer> next = new TreeSet<>();
      for (int k : found) for (Node n : step(tokens, at, nodes.get(k))) next.add(n.number);
      found = next;
      at++;
      while (kind(tokens, at) == 16) {
        while (kind(tokens, at) != 17) at++;
        at++;
      }
    }
    List<Node> list = new ArrayList<>();
    for (int k : found) list.add(nodes.get(k));
    return list;
  }

  private int worth(List<int[]> tokens, int at, Node node, int position, int size) {
    int kind = kind(tokens, at);
    switch (kind) {
      case 0: return tokens.get(at)[1];
      case 1: return position;
      case 2: return size;
      case 3: return node.value;
      case 4: return selected(tokens, at + 1, node).size();
      case 5: return selected(tokens, at + 1, node).stream().mapToInt(n -> n.value).sum();
      case 6: return selected(tokens, at + 1, node).stream().mapToInt(n -> n.value).findFirst().orElse(0);
      default: break;
    }
    int a = worth(tokens, at + 1, node, position, size);
    if (kind == 14) return a == 0 ? 1 : 0;
    int b = worth(tokens, number(tokens, at + 1, true), node, position, size);
    switch (kind) {
      case 7: return a + b;
      case 8: return a - b;
      case 9: return a * b;
      case 10: return a < b ? 1 : 0;
      case 11: return a == b ? 1 : 0;
      case 12: return a != 0 && b != 0 ? 1 : 0;
      default: return a != 0 || b != 0 ? 1 : 0;
    }
  }

  private boolean matches(Rule rule, Node node) {
    for (Node from = node; from != null; from = from.parent) {
      if (selected(rule.tokens, 0, from).contains(node)) return true;
    }
    return false;
  }

  private int ruleFor(Node node) {
    int best = -1;
    for (int r = 0; r < 6; r++) {
      if (rules[r] == null || !matches(rules[r], node)) continue;
      if (best < 0 || rules[r].priority > rules[best].priority
          || rules[r].priority == rules[best].priority && rules[r].given > rules[best].given) best = r;
    }
    return best;
  }

  private void step() {
    if (steps == 150) throw new Ended(1);
    steps++;
  }

  private void handle(List<Node> list, int depth) {
    if (depth > 12) throw new Ended(2);
    for (int k = 0; k < list.size(); k++) {
      step();
      Node node = list.get(k);
      int r = ruleFor(node);
      if (r >= 0) {
        List<int[]> tokens = rules[r].tokens;
        execute(tokens, path(tokens, 0, true), node, k + 1, list.size(), depth);
      } else if (node.children.isEmpty()) {
        outputs.add(node.value);
      } else {
        handle(node.children, depth + 1);
      }
    }
  }

  private void execute(List<int[]> tokens, int at, Node node, int position, int size, int depth) {
    while (at < tokens.size() && kind(tokens, at) != 26) {
      int inner;
      switch (kind(tokens, at)) {
        case 20:
          outputs.add(tokens.get(at)[1]);
          at++;
          break;
        case 21:
          outputs.add(1000000 + tokens.get(at)[1]);
          execute(tokens, at + 1, node, position, size, depth);
          outputs.add(2000000);
          at = body(tokens, at + 1) + 1;
          break;
        case 22:
          outputs.add(worth(tokens, at + 1, node, position, size));
          at = number(tokens, at + 1, true);
          break;
        case 23:
          handle(selected(tokens, at + 1, node), depth + 1);
          at = path(tokens, at + 1, true);
          break;
        case 24:
          inner = number(tokens, at + 1, true);
          if (worth(tokens, at + 1, node, position, size) != 0) execute(tokens, inner, node, position, size, depth);
          at = body(tokens, inner) + 1;
          break;
        default:
          inner = path(tokens, at + 1, true);
          each(tokens, inner, selected(tokens, at + 1, node), depth + 1);
          at = body(tokens, inner) + 1;
          break;
      }
    }
  }

  private void each(List<int[]> tokens, int body, List<Node> list, int depth) {
    if (depth > 12) throw new Ended(2);
    for (int k = 0; k < list.size(); k++) {
      step();
      execute(tokens, body, list.get(k), k + 1, list.size(), depth);
    }
  }
}
