/** Answers worked out by hand from the document, promise by promise. */
public final class PromiseTest {
  private static final int OK = 0, LONG = 1, DEEP = 2, SYNTAX = 3, BAD = -1;
  private static final int INT_MAX = Integer.MAX_VALUE, INT_MIN = Integer.MIN_VALUE;
  // 0(name 0, value 10): 1(1, 1): 2(2, 5), 3(2, 6): 4(0, 7); 5(1, 2): 6(2, 8); 7(3, 9)
  private static final String TREE = "0=10 1=1 2=5 . 2=6 0=7 . . . 1=2 2=8 . . 3=9 . .";
  private static int wrong = 0;
  private static int promise = 0;

  private static void due(String what, long got, long want) {
    if (got == want) return;
    wrong++;
    System.out.println("promise " + promise + ": " + what + " answered " + got + ", due is " + want);
  }

  private static void due(String what, boolean got, boolean want) {
    due(what, got ? 1 : 0, want ? 1 : 0);
  }

  private static TemplateProcessor tree() {
    TemplateProcessor x = new TemplateProcessor();
    Notation.build(x, TREE);
    return x;
  }

  private static void selects(TemplateProcessor x, String path, int node, int... nodes) {
    int set = 0;
    for (int k : nodes) set |= 1 << k;
    Notation.draft(x, path);
    due(path + " from " + node, x.select(node), set);
  }

  private static void isNumber(TemplateProcessor x, String words, int node, long want) {
    Notation.draft(x, words);
    due(words + " for " + node, x.number(node), want);
  }

  private static void give(TemplateProcessor x, int r, int priority, String words) {
    Notation.draft(x, words);
    due("rule " + r + " " + words, x.rule(r, priority), OK);
  }

  private static void puts(TemplateProcessor x, int outcome, int steps, int... numbers) {
    due("transform", x.transform(), outcome);
    due("steps", x.steps(), steps);
    due("size", x.size(), numbers.length);
    for (int k = 0; k < numbers.length && k < 60; k++) due("output " + k, x.output(k), numbers[k]);
    due("output behind the last", x.output(numbers.length), 0);
  }

  private static void wrongRule(String words, int place) {
    TemplateProcessor x = new TemplateProcessor();
    Notation.draft(x, words);
    due("rule of " + words, x.rule(0, 0), SYNTAX);
    due("place in " + words, x.place(), place);
    due("tokens left of " + words, x.wipe(), 0);
  }

  private static void wrongPath(String words, int place) {
    TemplateProcessor x = tree();
    Notation.draft(x, words);
    due("select of " + words, x.select(0), -SYNTAX);
    due("place in " + words, x.place(), place);
    due("tokens left of " + words, x.wipe(), words.isEmpty() ? 0 : words.split(" ").length);
  }

  private static void wrongNumber(String words, int place) {
    TemplateProcessor x = tree();
    Notation.draft(x, words);
    due("number of " + words, x.number(0), Long.MIN_VALUE + 1);
    due("place in " + words, x.place(), place);
    due("tokens left of " + words, x.wipe(), words.isEmpty() ? 0 : words.split(" ").length);
  }

  private static void newObject() {
    TemplateProcessor x = new TemplateProcessor();
    due("close", x.close(), BAD);
    due("clear", x.clear(), 0);
    due("wipe", x.wipe(), 0);
    due("place", x.place(), -1);
    for (int r = 0; r < 6; r++) due("drop " + r, x.drop(r), false);
    due("size", x.size(), 0);
    due("steps", x.steps(), 0);
    due("output 0", x.output(0), 0);
    due("transform", x.transform(), BAD);
    due("ruleFor 0", x.ruleFor(0), BAD - 1);
  }

  private static void opening() {
    TemplateProcessor x = new TemplateProcessor();
    due("name 6", x.open(6, 0), BAD);
    due("name -1", x.open(-1, 0), BAD);
    due("root", x.open(0, INT_MIN), 0);
    due("name 5", x.open(5, INT_MAX), 1);
    due("name 6 inside", x.open(6, 0), BAD);
    due("close 1", x.close(), 1);
    due("second child", x.open(1, 3), 2);
    selects(x, "child:*", 0, 1, 2);
    x.close();
    x.close();
    due("beside the root", x.open(0, 0), BAD);
    x.clear();
    for (int k = 0; k < 24; k++) due("node " + k, x.open(k % 6, k), k);
    due("node 24", x.open(0, 0), BAD);
    for (int k = 23; k >= 0; k--) due("close of " + k, x.close(), k);
  }

  private static void closing() {
    TemplateProcessor x = new TemplateProcessor();
    x.open(0, 0);
    x.open(0, 0);
    due("inner", x.close(), 1);
    x.open(0, 0);
    due("second inner", x.close(), 2);
    due("root", x.close(), 0);
    due("none open", x.close(), BAD);
  }

  private static void clearing() {
    TemplateProcessor x = tree();
    give(x, 2, 0, "self:* text:3");
    Notation.draft(x, "self:* self:*");
    due("transform", x.transform(), OK);
    due("clear", x.clear(), 8);
    due("again", x.clear(), 0);
    due("size stays", x.size(), 1);
    due("output stays", x.output(0), 3);
    due("draft stays", x.wipe(), 2);
    due("none open", x.close(), BAD);
    due("root again", x.open(0, 0), 0);
    due("clear with an open node", x.clear(), 1);
    due("none open then", x.close(), BAD);
    due("rule stays", x.drop(2), true);
  }

  private static void relabelling() {
    TemplateProcessor x = tree();
    due("node 8", x.relabel(8, 0, 0), false);
    due("node -1", x.relabel(-1, 0, 0), false);
    due("name 6", x.relabel(7, 6, 4), false);
    due("name -1", x.relabel(7, -1, 4), false);
    isNumber(x, "own", 7, 9);
    selects(x, "descendant:3", 0, 7);
    due("node 7", x.relabel(7, 5, -4), true);
    isNumber(x, "own", 7, -4);
    selects(x, "descendant:3", 0);
    selects(x, "descendant:5", 0, 7);
    for (int name = 0; name < 6; name++) {
      due("name " + name, x.relabel(7, name, 50 + name), true);
      selects(x, "child:* [ same own " + (50 + name) + " ] self:" + name, 0, 7);
      selects(x, "self:" + (name + 1) % 6, 7);
      selects(x, "self:" + (name + 5) % 6, 7);
    }
    TemplateProcessor empty = new TemplateProcessor();
    due("no nodes", empty.relabel(0, 0, 0), false);
    empty.open(0, 0);
    due("an open node", empty.relabel(0, 1, 1), true);
  }

  private static void appending() {
    TemplateProcessor x = new TemplateProcessor();
    int[] kinds = {-1, 18, 19, 27, INT_MAX, INT_MIN};
    for (int kind : kinds) due("kind " + kind, x.token(kind, 0), false);
    int[] noSteps = {-1, 7, 15, 71, 72, 78, -8, INT_MAX, INT_MIN};
    for (int value : noSteps) due("step " + value, x.token(15, value), false);
    due("element 6", x.token(21, 6), false);
    due("element -1", x.token(21, -1), false);
    due("none of them stands", x.wipe(), 0);
    for (int kind = 0; kind <= 26; kind++) {
      boolean valued = kind == 15 || kind == 21 || kind == 18 || kind == 19;
      if (!valued) due("kind " + kind, x.token(kind, kind % 2 == 0 ? INT_MIN : INT_MAX), true);
    }
    due("those stand", x.wipe(), 23);
    int[] steps = {0, 6, 8, 64, 70};
    for (int value : steps) due("step " + value, x.token(15, value), true);
    due("element 0", x.token(21, 0), true);
    due("element 5", x.token(21, 5), true);
    for (int k = 7; k < 30; k++) due("token " + k, x.token(0, k), true);
    due("token 30", x.token(0, 0), false);
    due("thirty", x.wipe(), 30);
  }

  private static void wiping() {
    TemplateProcessor x = tree();
    Notation.draft(x, "child:* child:*");
    due("two", x.wipe(), 2);
    due("none", x.wipe(), 0);
    selects(x, "self:*", 3, 3);
    due("one", x.wipe(), 1);
  }

  private static void giving() {
    TemplateProcessor x = tree();
    Notation.draft(x, "self:* text:1");
    due("rule 6", x.rule(6, 0), BAD);
    due("rule -1", x.rule(-1, 0), BAD);
    due("draft stays", x.wipe(), 2);
    give(x, 5, 0, "self:*");
    due("draft is empty", x.wipe(), 0);
    puts(x, OK, 1);
    give(x, 5, 0, "self:* [ own ] [ 1 ] self:0 text:1 value add 1 2 element:0 if 0 end end each child:* [ 0 ] end");
    Notation.draft(x, "self:* text:2 pos");
    due("wrong one", x.rule(5, 9), SYNTAX);
    puts(x, OK, 1, 1, 3, 1000000, 2000000);
    give(x, 5, 0, "self:* text:2");
    puts(x, OK, 1, 2);
    Notation.draft(x, "self:* self:* text:2 text:3");
    x.rule(0, 1);
    x.token(15, 6);
    due("a shorter draft behind it", x.select(3), 8);
    due("a shorter rule behind it", x.rule(0, 1), OK);
    puts(x, OK, 1);
  }

  private static void placing() {
    wrongRule("", 0);
    wrongRule("text:1", 0);
    wrongRule("[ 1 ] self:*", 0);
    wrongRule("self:* [", 2);
    wrongRule("self:* [ 1", 3);
    wrongRule("self:* [ ]", 2);
    wrongRule("self:* [ 1 2 ]", 3);
    wrongRule("self:* [ count self:* [ 1 ] ]", 4);
    wrongRule("self:* [ count ]", 3);
    wrongRule("self:* [ text:1 ]", 2);
    wrongRule("self:* ]", 1);
    wrongRule("self:* end", 1);
    wrongRule("self:* 1", 1);
    wrongRule("self:* text:1 self:*", 2);
    wrongRule("self:* text:1 [ 1 ]", 2);
    wrongRule("self:* element:1", 2);
    wrongRule("self:* element:1 end end", 3);
    wrongRule("self:* value", 2);
    wrongRule("self:* value 1 [ 1 ]", 3);
    wrongRule("self:* value text:1", 2);
    wrongRule("self:* apply", 2);
    wrongRule("self:* apply 1", 2);
    wrongRule("self:* if 1", 3);
    wrongRule("self:* if end", 2);
    wrongRule("self:* each end", 2);
    wrongRule("self:* each self:* text:1", 4);
    wrongRule("self:* each self:* [ 1 ] if 1 element:1 end end", 11);
    wrongPath("", 0);
    wrongPath("1", 0);
    wrongPath("self:* text:1", 1);
    wrongPath("self:* [ 1 ] ]", 4);
    wrongPath("self:* [ not", 3);
    wrongPath("self:* [ 1 ] [ and 1", 7);
    wrongNumber("", 0);
    wrongNumber("self:*", 0);
    wrongNumber("1 2", 1);
    wrongNumber("add 1", 2);
    wrongNumber("not", 1);
    wrongNumber("not 1 1", 2);
    wrongNumber("add count self:* self:*", 4);
    wrongNumber("count self:* [ 1", 4);
    wrongNumber("sum self:* [ first child:* [ 1 ] ]", 5);
    wrongNumber("add 1 2 end", 3);
    TemplateProcessor x = tree();
    Notation.draft(x, "self:* self:* [");
    x.select(0);
    due("of select", x.place(), 3);
    selects(x, "self:* [ 1 ]", 0, 0);
    Notation.draft(x, "count self:* self:* [ ]");
    x.number(0);
    due("of number", x.place(), 4);
    isNumber(x, "count self:* [ 1 ]", 0, 1);
    Notation.draft(x, "self:* each self:* [ 1");
    x.rule(0, 0);
    due("of rule", x.place(), 5);
    give(x, 0, 0, "self:* [ 1 ]");
    Notation.draft(x, "self:* self:* [ ]");
    x.select(0);
    due("of select again", x.place(), 3);
    longest();
    give(x, 0, 0, "self:*");
    selects(x, "self:*", 0, 0);
    isNumber(x, "1", 0, 1);
    x.clear();
    due("of the latest that was wrong", x.place(), 3);
    Notation.draft(x, "self:* self:*");
    x.rule(9, 0);
    due("after BAD", x.place(), 3);
  }

  /** Thirty tokens: as many as a draft can have, in the forms that leave the most open. */
  private static void longest() {
    wrongNumber("add ".repeat(30).trim(), 30);
    wrongRule("self:*" + " element:1".repeat(29), 30);
    wrongRule("self:*" + " each self:*".repeat(14) + " each", 30);
    wrongRule("self:*" + " if 1".repeat(14) + " end", 30);
    TemplateProcessor x = tree();
    isNumber(x, "not ".repeat(29) + "0", 0, 1);
    isNumber(x, "sub 1 ".repeat(14) + "5", 0, 5);
    selects(x, "self:* ".repeat(29) + "child:*", 0, 1, 5, 7);
    give(x, 0, 0, "self:0" + " element:1".repeat(14) + " end".repeat(14) + " text:3");
    due("transform", x.transform(), OK);
    due("the last of it", x.output(28), 3);
    due("an end of it", x.output(27), 2000000);
  }

  private static void dropping() {
    TemplateProcessor x = tree();
    give(x, 0, 0, "self:* text:1");
    give(x, 5, 1, "self:* text:2");
    due("rule 6", x.drop(6), false);
    due("rule -1", x.drop(-1), false);
    due("rule 1", x.drop(1), false);
    due("rule 5", x.drop(5), true);
    due("rule 5 again", x.drop(5), false);
    puts(x, OK, 1, 1);
    due("rule 0", x.drop(0), true);
    due("none is left", x.ruleFor(0), -1);
  }

  private static void selecting() {
    TemplateProcessor x = tree();
    selects(x, "self:*", 3, 3);
    selects(x, "self:1", 3);
    selects(x, "child:*", 0, 1, 5, 7);
    selects(x, "child:1", 0, 1, 5);
    selects(x, "child:*", 4);
    selects(x, "parent:*", 4, 3);
    selects(x, "parent:1", 4);
    selects(x, "parent:*", 0);
    selects(x, "descendant:*", 1, 2, 3, 4);
    selects(x, "ancestor:*", 4, 0, 1, 3);
    selects(x, "next:*", 1, 5, 7);
    selects(x, "next:*", 0);
    selects(x, "before:*", 7, 1, 5);
    selects(x, "before:*", 0);
    selects(x, "behind:*", 3, 5, 6, 7);
    selects(x, "behind:*", 0);
    selects(x, "ahead:*", 6, 1, 2, 3, 4);
    selects(x, "ahead:*", 4, 2);
    selects(x, "child:1 child:2", 0, 2, 3, 6);
    selects(x, "descendant:* parent:*", 0, 0, 1, 3, 5);
    selects(x, "child:* [ same pos 1 ]", 0, 1);
    selects(x, "child:* [ same pos last ]", 0, 7);
    selects(x, "ancestor:* [ same pos 1 ]", 4, 3);
    selects(x, "ancestor:* [ same pos last ]", 4, 0);
    selects(x, "parent:* [ same pos 1 ]", 5, 0);
    selects(x, "before:* [ same pos 1 ]", 7, 5);
    selects(x, "ahead:* [ same pos 1 ]", 7, 6);
    selects(x, "behind:* [ same pos 1 ]", 3, 5);
    selects(x, "next:* [ same pos 1 ]", 1, 5);
    selects(x, "descendant:* [ less 6 own ]", 0, 4, 6, 7);
    selects(x, "descendant:* [ less 1 pos ] [ same pos 1 ]", 0, 2);
    selects(x, "descendant:* [ same own 9 ] [ last ]", 0, 7);
    selects(x, "descendant:2 [ same last 3 ] [ less pos 3 ] [ same last 2 ]", 0, 2, 3);
    selects(x, "child:* child:* [ same pos 1 ]", 0, 2, 6);
    selects(x, "child:* [ same count child:2 2 ]", 0, 1);
    selects(x, "child:* [ sum child:2 child:0 ]", 0, 1);
    due("node 8", x.select(8), BAD);
    due("node -1", x.select(-1), BAD);
    due("draft stays", x.wipe(), 6);
    TemplateProcessor whole = new TemplateProcessor();
    whole.open(0, 0);
    for (int k = 1; k < 24; k++) { whole.open(1, k); whole.close(); }
    Notation.draft(whole, "child:*");
    due("all children", whole.select(0), 0xFFFFFE);
    Notation.draft(whole, "before:* [ same pos last ]");
    due("farthest before", whole.select(23), 2);
    Notation.draft(whole, "ahead:*");
    due("all ahead", whole.select(23), 0x7FFFFE);
    Notation.draft(whole, "behind:* [ same pos last ]");
    due("farthest behind", whole.select(1), 1 << 23);
    Notation.draft(whole, "ancestor:* child:* [ count ahead:* ]");
    due("all but the first", whole.select(5), 0xFFFFFC);
  }

  private static void numbering() {
    TemplateProcessor x = tree();
    isNumber(x, "-5", 0, -5);
    isNumber(x, "pos", 7, 1);
    isNumber(x, "last", 7, 1);
    isNumber(x, "own", 6, 8);
    isNumber(x, "count descendant:2", 0, 3);
    isNumber(x, "sum descendant:2", 0, 19);
    isNumber(x, "first descendant:2", 0, 5);
    isNumber(x, "first ancestor:*", 4, 10);
    isNumber(x, "sum ancestor:*", 4, 17);
    isNumber(x, "first child:*", 4, 0);
    isNumber(x, "sum child:*", 4, 0);
    isNumber(x, "count child:* [ less own 5 ] child:* [ same pos last ]", 0, 2);
    isNumber(x, "sub 3 10", 0, -7);
    isNumber(x, "mul add 2 3 sub 9 own", 7, 0);
    isNumber(x, "sub sub 9 3 sub 2 1", 0, 5);
    isNumber(x, "less 1 2", 0, 1);
    isNumber(x, "less 2 2", 0, 0);
    isNumber(x, "less -2147483648 2147483647", 0, 1);
    isNumber(x, "same 2 2", 0, 1);
    isNumber(x, "same 2 -2", 0, 0);
    isNumber(x, "and 2 4", 0, 1);
    isNumber(x, "and 2 0", 0, 0);
    isNumber(x, "and 0 2", 0, 0);
    isNumber(x, "or 0 -4", 0, 1);
    isNumber(x, "or 4 0", 0, 1);
    isNumber(x, "or 0 0", 0, 0);
    isNumber(x, "not 7", 0, 0);
    isNumber(x, "not 0", 0, 1);
    isNumber(x, "add 2147483647 1", 0, INT_MIN);
    isNumber(x, "sub -2147483648 1", 0, INT_MAX);
    isNumber(x, "mul 65536 65536", 0, 0);
    x.relabel(2, 2, INT_MAX);
    isNumber(x, "sum descendant:2", 0, INT_MIN + 13L);
    isNumber(x, "add sum self:* sub count child:* [ own ] first next:*", 1, 1 + 2 - 2);
    due("node 8", x.number(8), Long.MIN_VALUE);
    due("node -1", x.number(-1), Long.MIN_VALUE);
    due("draft stays", x.wipe(), 11);
  }

  private static void choosing() {
    TemplateProcessor x = tree();
    due("no rules", x.ruleFor(0), -1);
    due("node 8", x.ruleFor(8), BAD - 1);
    due("node -1", x.ruleFor(-1), BAD - 1);
    give(x, 0, 0, "self:2");
    due("by itself", x.ruleFor(2), 0);
    due("another name", x.ruleFor(1), -1);
    give(x, 1, 1, "child:1 child:2");
    due("by an ancestor", x.ruleFor(6), 1);
    give(x, 2, 1, "child:2");
    due("equal, given later", x.ruleFor(6), 2);
    give(x, 1, 1, "child:1 child:2");
    due("given anew", x.ruleFor(6), 1);
    Notation.draft(x, "child:2 pos");
    x.rule(2, 5);
    due("a wrong one changes nothing", x.ruleFor(6), 1);
    give(x, 1, -1, "child:1 child:2");
    due("a lower priority", x.ruleFor(6), 2);
    give(x, 3, INT_MIN, "self:*");
    due("the lowest priority", x.ruleFor(6), 2);
    due("the lowest alone", x.ruleFor(0), 3);
    give(x, 4, INT_MAX, "next:*");
    due("selected from no ancestor", x.ruleFor(5), 3);
    give(x, 4, INT_MAX, "parent:*");
    due("selected from a descendant", x.ruleFor(1), 3);
    give(x, 4, INT_MAX, "child:* [ same pos 2 ] parent:* child:3");
    due("over a detour", x.ruleFor(7), 4);
    due("not itself", x.ruleFor(5), 3);
  }

  private static void transforming() {
    TemplateProcessor x = tree();
    puts(x, OK, 8, 5, 7, 8, 9);
    give(x, 0, 0, "self:1 element:4 value pos value last apply child:* end text:-1");
    puts(x, OK, 8, 1000004, 1, 3, 5, 7, 2000000, -1, 1000004, 2, 3, 8, 2000000, -1, 9);
    give(x, 1, 0, "self:2 value pos value last value count ancestor:*");
    puts(x, OK, 7, 1000004, 1, 3, 1, 2, 2, 2, 2, 2, 2000000, -1, 1000004, 2, 3, 1, 1, 2, 2000000, -1, 9);
    give(x, 2, 1, "self:0 each child:* if same pos last text:77 end value mul 10 pos value last end value pos");
    puts(x, OK, 4, 10, 3, 20, 3, 77, 30, 3, 1);
    give(x, 2, 1, "self:0 apply descendant:* ancestor:* [ 1 ] self:1");
    puts(x, OK, 6, 1000004, 1, 2, 1, 2, 2, 2, 2, 2, 2000000, -1, 1000004, 2, 2, 1, 1, 2, 2000000, -1);
    give(x, 2, 1, "self:0 apply behind:* each behind:* text:1 end text:2");
    puts(x, OK, 1, 2);
    give(x, 2, 1, "self:0 if 0 element:1 text:1 end if 1 text:1 end end text:5 if -1 element:2 if 1 end end end");
    puts(x, OK, 1, 5, 1000002, 2000000);
    give(x, 2, 1, "self:0 element:1 end element:2 element:3 end text:4 end if 1 element:5 end end");
    puts(x, OK, 1, 1000001, 2000000, 1000002, 1000003, 2000000, 4, 2000000, 1000005, 2000000);
    give(x, 2, 1, "self:0 each child:1 each child:2 value own value pos end value pos value own end");
    puts(x, OK, 6, 5, 1, 6, 2, 1, 1, 8, 1, 2, 2);
    TemplateProcessor open = new TemplateProcessor();
    open.open(0, 1);
    open.open(0, 2);
    puts(open, OK, 2, 2);
    due("goes on", open.open(0, 3), 2);
  }

  private static void limits() {
    TemplateProcessor x = new TemplateProcessor();
    x.open(0, 5);
    give(x, 0, 0, "self:* text:1 element:2 apply self:* end");
    due("self within self", x.transform(), DEEP);
    due("its steps", x.steps(), 12);
    due("its size", x.size(), 24);
    give(x, 0, 0, "self:* text:1 if less pos 2 apply child:* end");
    puts(x, OK, 1, 1);
    due("eleven more", deepest(11, "child:*"), OK);
    due("twelve more", deepest(12, "child:*"), DEEP);
    due("an empty list", deepest(11, "child:* apply child:*"), DEEP);
    due("an empty EACH", deepest(11, "child:* each child:* end"), DEEP);
    due("an empty EACH of a lesser depth", deepest(10, "child:* each child:* end"), OK);
    wide();
  }

  /** A chain of nodes, each of which but the last applies rules to the next one. */
  private static int deepest(int more, String paths) {
    TemplateProcessor x = new TemplateProcessor();
    for (int k = 0; k <= more; k++) x.open(k == more ? 1 : 0, k);
    give(x, 0, 0, "self:0 apply child:*");
    String[] parts = paths.split(" ", 2);
    give(x, 1, 0, "self:1 " + (parts.length > 1 ? parts[1] : "text:4"));
    return x.transform();
  }

  private static void wide() {
    TemplateProcessor x = new TemplateProcessor();
    x.open(0, 0);
    for (int k = 1; k < 24; k++) { x.open(1, k); x.close(); }
    give(x, 0, 0, "self:0 each child:* [ less pos 12 ] text:1 each next:* [ less pos 13 ] end end text:9");
    // 1, 11 and 12 for each of them while enough later ones are left
    due("144 steps", x.transform(), OK);
    due("their number", x.steps(), 1 + 11 + 11 * 12);
    give(x, 0, 0, "self:0 each child:* [ less pos 12 ] text:1 each next:* [ less pos 13 ] text:2 end end "
        + "apply child:* [ less pos 7 ]");
    due("150 steps", x.transform(), OK);
    due("their number", x.steps(), 150);
    due("their size", x.size(), 11 + 132 + 6);
    give(x, 0, 0, "self:0 each child:* [ less pos 12 ] text:1 each next:* [ less pos 13 ] text:2 end end "
        + "element:1 apply child:* [ less pos 8 ] end");
    due("a handled node too many", x.transform(), LONG);
    due("their number", x.steps(), 150);
    due("what was put out stays", x.size(), 11 + 132 + 1 + 6);
    give(x, 0, 0, "self:0 each child:* [ less pos 12 ] text:1 each next:* [ less pos 13 ] text:2 end end "
        + "each child:* [ less pos 8 ] text:1 end");
    due("an EACH too many", x.transform(), LONG);
    due("their size", x.size(), 11 + 132 + 6);
    due("the 60th", x.output(59), 2);
    due("the 61st", x.output(60), 0);
  }

  private static void readingOutput() {
    TemplateProcessor x = tree();
    x.transform();
    due("size", x.size(), 4);
    due("output 3", x.output(3), 9);
    due("output 4", x.output(4), 0);
    due("output -1", x.output(-1), 0);
    due("output far off", x.output(INT_MAX), 0);
    due("output farther off", x.output(INT_MIN), 0);
    x.clear();
    due("size stays", x.size(), 4);
    due("steps stay", x.steps(), 8);
    due("empty", x.transform(), BAD);
    due("size after BAD", x.size(), 0);
    due("steps after BAD", x.steps(), 0);
    due("output after BAD", x.output(0), 0);
    x.open(0, 6);
    x.transform();
    due("size of the latest", x.size(), 1);
    due("output of the latest", x.output(0), 6);
    due("not of an earlier one", x.output(1), 0);
  }

  private static void manyOutputs() {
    TemplateProcessor x = new TemplateProcessor();
    x.open(0, 0);
    for (int k = 1; k < 24; k++) { x.open(1, k); x.close(); }
    give(x, 0, 0, "self:0 each child:* value own value pos value last end");
    due("transform", x.transform(), OK);
    due("size", x.size(), 69);
    due("output 57", x.output(57), 20);
    due("output 59", x.output(59), 23);
    due("output 60", x.output(60), 0);
    due("output 68", x.output(68), 0);
  }

  private static void order() {
    TemplateProcessor x = new TemplateProcessor();
    Notation.draft(x, "pos");
    due("rule: BAD first", x.rule(6, 0), BAD);
    due("select: node first", x.select(0), BAD);
    due("place as it was", x.place(), -1);
    x.open(0, 0);
    due("select", x.select(0), -SYNTAX);
    due("place", x.place(), 0);
    Notation.draft(x, "pos pos");
    due("number: node first", x.number(1), Long.MIN_VALUE);
    due("place as it was", x.place(), 0);
    due("number", x.number(0), Long.MIN_VALUE + 1);
    due("place", x.place(), 1);
    due("rule: SYNTAX", x.rule(0, 0), SYNTAX);
    due("the draft is empty", x.wipe(), 0);
    due("place of rule", x.place(), 0);
  }

  public static void main(String[] args) {
    Runnable[] tests = {PromiseTest::newObject, PromiseTest::opening, PromiseTest::closing,
        PromiseTest::clearing, PromiseTest::relabelling, PromiseTest::appending, PromiseTest::wiping,
        PromiseTest::giving, PromiseTest::placing, PromiseTest::dropping, PromiseTest::selecting,
        PromiseTest::numbering, PromiseTest::choosing, PromiseTest::transforming,
        PromiseTest::readingOutput, PromiseTest::manyOutputs, PromiseTest::limits, PromiseTest::order};
    for (Runnable test : tests) {
      promise++;
      test.run();
    }
    System.out.println(wrong == 0 ? "all promises are kept" : wrong + " answers are not as due");
    if (wrong != 0) System.exit(1);
  }
}
