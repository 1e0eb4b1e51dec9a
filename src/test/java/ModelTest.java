import java.util.ArrayList;
import java.util.List;

/** Many runs of calls, always the same ones, on the program and on the model side by side. */
public final class ModelTest {
  private static final int RUNS = 4000, CALLS = 500;
  private static long seed;
  private static int wrong = 0;
  private static final int[] outcomes = new int[4];
  private static int longestList = 0, chosenRules = 0, wrongDrafts = 0, rightDrafts = 0;

  private static int below(int n) {
    seed = seed * 6364136223846793005L + 1442695040888963407L;
    return (int) ((seed >>> 33) % n);
  }

  private static int oneOf(int... choices) { return choices[below(choices.length)]; }

  private static final class Pair {
    final TemplateProcessor x = new TemplateProcessor();
    final Model m = new Model();
    final StringBuilder told = new StringBuilder();
    int calls = 0;
    boolean apart = false;

    void same(String call, long got, long want) {
      calls++;
      if (calls > 512) throw new IllegalStateException("a run makes more than 512 calls");
      told.append(call).append(' ').append(got).append('\n');
      if (got == want || apart) return;
      apart = true;
      wrong++;
      if (wrong <= 3) System.out.println(told + "due was " + want);
    }

    void same(String call, boolean got, boolean want) { same(call, got ? 1 : 0, want ? 1 : 0); }

    void token(int kind, int value) {
      same("token " + kind + " " + value, x.token(kind, value), m.token(kind, value));
    }

    void place() { same("place", x.place(), m.place()); }
  }

  private static int value() {
    return below(12) == 0 ? oneOf(Integer.MAX_VALUE, Integer.MIN_VALUE, 65536, -65537) : below(9) - 2;
  }

  private static int stepValue() {
    return 8 * oneOf(0, 1, 1, 1, 2, 3, 3, 4, 5, 6, 7, 8) + oneOf(6, 6, 6, 0, 1, 2, below(6));
  }

  private static void number(List<int[]> to, int size, boolean conditions) {
    int form = size <= 1 ? below(5) : below(9);
    if (form == 0) to.add(new int[] {0, value()});
    else if (form == 1) to.add(new int[] {3, 0});
    else if (form <= 3) to.add(new int[] {form - 1, 0});
    else if (form <= 5) {
      to.add(new int[] {4 + below(3), 0});
      path(to, size - 1, conditions);
    } else if (form == 6) {
      to.add(new int[] {14, 0});
      number(to, size - 1, conditions);
    } else {
      to.add(new int[] {oneOf(7, 8, 9, 10, 10, 11, 11, 12, 13), 0});
      number(to, size / 2, conditions);
      number(to, size / 2, conditions);
    }
  }

  private static void path(List<int[]> to, int size, boolean conditions) {
    int steps = 1 + below(Math.max(1, Math.min(3, size)));
    for (int k = 0; k < steps; k++) {
      to.add(new int[] {15, stepValue()});
      while (conditions && size > 2 && below(3) == 0) {
        to.add(new int[] {16, 0});
        number(to, 1 + below(4), false);
        to.add(new int[] {17, 0});
      }
    }
  }

  private static void body(List<int[]> to, int size) {
    for (int items = below(4); items > 0 && size > 0; items--) {
      int kind = oneOf(20, 21, 22, 22, 23, 23, 24, 25);
      to.add(new int[] {kind, kind == 21 ? below(6) : value()});
      if (kind == 22 || kind == 24) number(to, below(5), true);
      if (kind == 23 || kind == 25) path(to, below(5), true);
      if (kind == 21 || kind == 24 || kind == 25) {
        body(to, size - 1);
        to.add(new int[] {26, 0});
      }
    }
  }

  private static void spoil(List<int[]> tokens) {
    int at = below(tokens.size() + 1);
    int how = below(3);
    if (how == 0) tokens.add(at, new int[] {below(29) - 1, below(80) - 2});
    else if (how == 1 && at < tokens.size()) tokens.remove(at);
    else if (how == 2) tokens.subList(at, tokens.size()).clear();
  }

  private static void draft(Pair p, int form) {
    if (below(8) != 0) p.same("wipe", p.x.wipe(), p.m.wipe());
    List<int[]> tokens = new ArrayList<>();
    if (form == 0) number(tokens, below(9), true);
    else path(tokens, below(6), true);
    if (form == 2) body(tokens, 3);
    if (below(5) == 0) spoil(tokens);
    for (int[] token : tokens) p.token(token[0], token[1]);
  }

  private static void build(Pair p) {
    p.same("clear", p.x.clear(), p.m.clear());
    int shape = below(4);
    for (int k = oneOf(3, 8, 15, 28); k > 0; k--) {
      int name = below(30) == 0 ? below(9) - 2 : below(shape + 2) % 6;
      int value = value();
      p.same("open " + name + " " + value, p.x.open(name, value), p.m.open(name, value));
      for (int c = below(shape + 1); c > 0; c--) {
        // a root that is often closed early would leave most documents with one node
        if (below(40) == 0 || p.m.openNodes() > 1) p.same("close", p.x.close(), p.m.close());
      }
    }
    while (below(4) != 0) p.same("close", p.x.close(), p.m.close());
  }

  private static void look(Pair p) {
    int node = below(26) - 1;
    int form = below(5);
    if (form == 0) {
      draft(p, 1);
      for (int k = 0; k < 4; k++, node = below(12)) {
        int answer = p.m.select(node);
        count(answer == -3);
        p.same("select " + node, p.x.select(node), answer);
      }
    } else if (form == 1) {
      draft(p, 0);
      for (int k = 0; k < 4; k++, node = below(12)) {
        long answer = p.m.number(node);
        count(answer == Long.MIN_VALUE + 1);
        p.same("number " + node, p.x.number(node), answer);
      }
    } else if (form == 2) {
      for (int k = 0; k < 4; k++, node = below(12)) {
        int answer = p.m.ruleFor(node);
        if (answer > 0) chosenRules++;
        p.same("ruleFor " + node, p.x.ruleFor(node), answer);
      }
    } else if (form == 3) {
      int name = below(8) - 1;
      int value = value();
      p.same("relabel", p.x.relabel(node, name, value), p.m.relabel(node, name, value));
    } else {
      int r = below(8) - 1;
      if (below(3) == 0) p.same("drop " + r, p.x.drop(r), p.m.drop(r));
    }
    p.place();
  }

  private static void count(boolean isWrong) {
    if (isWrong) wrongDrafts++; else rightDrafts++;
  }

  private static void give(Pair p) {
    draft(p, 2);
    int r = below(20) == 0 ? below(10) - 2 : below(6);
    int priority = below(3) - 1;
    int answer = p.m.rule(r, priority);
    count(answer == 3);
    p.same("rule " + r + " " + priority, p.x.rule(r, priority), answer);
    p.place();
  }

  private static void transform(Pair p) {
    int outcome = p.m.transform();
    outcomes[outcome + 1]++;
    p.same("transform", p.x.transform(), outcome);
    p.same("size", p.x.size(), p.m.size());
    p.same("steps", p.x.steps(), p.m.steps());
    longestList = Math.max(longestList, p.m.size());
    for (int k = -1; k <= Math.min(61, p.m.size()); k++) p.same("output " + k, p.x.output(k), p.m.output(k));
  }

  public static void main(String[] args) {
    Check.about("the runs beside the model");
    Check.begin(300);
    for (int run = 0; run < RUNS; run++) {
      seed = run;
      Pair p = new Pair();
      build(p);
      while (p.calls < CALLS - 150 && !p.apart) {
        int next = below(8);
        if (next == 0) build(p);
        else if (next <= 3) give(p);
        else if (next <= 5) transform(p);
        else look(p);
      }
    }
    System.out.println("transformations: BAD " + outcomes[0] + ", OK " + outcomes[1] + ", LONG " + outcomes[2]
        + ", DEEP " + outcomes[3] + "; longest output " + longestList + "; rules chosen " + chosenRules
        + "; drafts right " + rightDrafts + ", wrong " + wrongDrafts);
    System.out.println(wrong == 0 ? "the program and the model agree" : "they part in " + wrong + " runs");
    if (wrong != 0) System.exit(1);
  }
}
