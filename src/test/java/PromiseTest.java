/** Answers worked out by hand from the document, promise by promise. */
public final class PromiseTest {
  private static final int OK = 0, LONG = 1, DEEP = 2, SYNTAX = 3, BAD = -1;
  private static final int INT_MAX = Integer.MAX_VALUE, INT_MIN = Integer.MIN_VALUE;
  // 0(name 0, value 10): 1(1, 1): 2(2, 5), 3(2, 6): 4(0, 7); 5(1, 2): 6(2, 8); 7(3, 9)
  private static final String TREE = "0=10 1=1 2=5 . 2=6 0=7 . . . 1=2 2=8 . . 3=9 . .";

  private static void due(String what, long got, long want) { Check.due(what, got, want); }

  private static void due(String what, boolean got, boolean want) { Check.due(what, got, want); }

  private static Probe tree() { return Probe.of(TREE); }

  private static void wrongRule(String words, int place) {
    Probe x = new Probe();
    x.noRule(words, place);
    due("tokens left of " + words, x.wipe(), 0);
  }

  private static void wrongPath(String words, int place) {
    Probe x = tree();
    x.noPath(words, place);
    due("tokens left of " + words, x.wipe(), words.isEmpty() ? 0 : words.split(" ").length);
  }

  private static void wrongNumber(String words, int place) {
    Probe x = tree();
    x.noNumber(words, place);
    due("tokens left of " + words, x.wipe(), words.isEmpty() ? 0 : words.split(" ").length);
  }

  private static void newObject() {
    Probe x = new Probe();
    due("close", x.close(), BAD);
    due("clear", x.clear(), 0);
    due("wipe", x.wipe(), 0);
    due("place", x.place(), -1);
    for (int r = 0; r < 6; r++) due("drop " + r, x.drop(r), false);
    due("size", x.size(), 0);
    due("steps", x.steps(), 0);
    due("output 0", x.output(0), 0);
    due("transform", x.transform(), BAD);
    due("ruleFor 0", x.ruleFor(0), BAD - 1);
  }

  private static void opening() {
    Probe x = new Probe();
    due("name 6", x.open(6, 0), BAD);
    due("name -1", x.open(-1, 0), BAD);
    due("root", x.open(0, INT_MIN), 0);
    due("name 5", x.open(5, INT_MAX), 1);
    due("name 6 inside", x.open(6, 0), BAD);
    due("close 1", x.close(), 1);
    due("second child", x.open(1, 3), 2);
    x.selects("child:*", 0, 1, 2);
    x.close();
    x.close();
    due("beside the root", x.open(0, 0), BAD);
    x.clear();
    for (int k = 0; k < 24; k++) due("node " + k, x.open(k % 6, k), k);
    due("node 24", x.open(0, 0), BAD);
    for (int k = 23; k >= 0; k--) due("close of " + k, x.close(), k);
  }

  private static void closing() {
    Probe x = new Probe();
    x.open(0, 0);
    x.open(0, 0);
    due("inner", x.close(), 1);
    x.open(0, 0);
    due("second inner", x.close(), 2);
    due("root", x.close(), 0);
    due("none open", x.close(), BAD);
  }

  private static void clearing() {
    Probe x = tree();
    x.gives(2, 0, "self:* text:3");
    x.draft("self:* self:*");
    due("transform", x.transform(), OK);
    due("clear", x.clear(), 8);
    due("again", x.clear(), 0);
    due("size stays", x.size(), 1);
    due("output stays", x.output(0), 3);
    due("draft stays", x.wipe(), 2);
    due("none open", x.close(), BAD);
    due("root again", x.open(0, 0), 0);
    due("clear with an open node", x.clear(), 1);
    due("none open then", x.close(), BAD);
    due("rule stays", x.drop(2), true);
  }

  private static void relabelling() {
    Probe x = tree();
    due("node 8", x.relabel(8, 0, 0), false);
    due("node -1", x.relabel(-1, 0, 0), false);
    due("name 6", x.relabel(7, 6, 4), false);
    due("name -1", x.relabel(7, -1, 4), false);
    x.isNumber("own", 7, 9);
    x.selects("descendant:3", 0, 7);
    due("node 7", x.relabel(7, 5, -4), true);
    x.isNumber("own", 7, -4);
    x.selects("descendant:3", 0);
    x.selects("descendant:5", 0, 7);
    for (int name = 0; name < 6; name++) {
      due("name " + name, x.relabel(7, name, 50 + name), true);
      x.selects("child:* [ same own " + (50 + name) + " ] self:" + name, 0, 7);
      x.selects("self:" + (name + 1) % 6, 7);
      x.selects("self:" + (name + 5) % 6, 7);
    }
    Probe empty = new Probe();
    due("no nodes", empty.relabel(0, 0, 0), false);
    empty.open(0, 0);
    due("an open node", empty.relabel(0, 1, 1), true);
  }

  private static void appending() {
    Probe x = new Probe();
    int[] kinds = {-1, 18, 19, 27, INT_MAX, INT_MIN};
    for (int kind : kinds) due("kind " + kind, x.token(kind, 0), false);
    int[] noSteps = {-1, 7, 15, 71, 72, 78, -8, INT_MAX, INT_MIN};
    for (int value : noSteps) due("step " + value, x.token(15, value), false);
    due("element 6", x.token(21, 6), false);
    due("element -1", x.token(21, -1), false);
    due("none of them stands", x.wipe(), 0);
    for (int kind = 0; kind <= 26; kind++) {
      boolean valued = kind == 15 || kind == 21 || kind == 18 || kind == 19;
      if (!valued) due("kind " + kind, x.token(kind, kind % 2 == 0 ? INT_MIN : INT_MAX), true);
    }
    due("those stand", x.wipe(), 23);
    int[] steps = {0, 6, 8, 64, 70};
    for (int value : steps) due("step " + value, x.token(15, value), true);
    due("element 0", x.token(21, 0), true);
    due("element 5", x.token(21, 5), true);
    for (int k = 7; k < 30; k++) due("token " + k, x.token(0, k), true);
    due("token 30", x.token(0, 0), false);
    due("thirty", x.wipe(), 30);
  }

  private static void wiping() {
    Probe x = tree();
    x.draft("child:* child:*");
    due("two", x.wipe(), 2);
    due("none", x.wipe(), 0);
    x.selects("self:*", 3, 3);
    due("one", x.wipe(), 1);
  }

  private static void giving() {
    Probe x = tree();
    x.draft("self:* text:1");
    due("rule 6", x.rule(6, 0), BAD);
    due("rule -1", x.rule(-1, 0), BAD);
    due("draft stays", x.wipe(), 2);
    x.gives(5, 0, "self:*");
    due("draft is empty", x.wipe(), 0);
    x.puts(OK, 1);
    x.gives(5, 0, "self:* [ own ] [ 1 ] self:0 text:1 value add 1 2 element:0 if 0 end end each child:* [ 0 ] end");
    x.draft("self:* text:2 pos");
    due("wrong one", x.rule(5, 9), SYNTAX);
    x.puts(OK, 1, 1, 3, 1000000, 2000000);
    x.gives(5, 0, "self:* text:2");
    x.puts(OK, 1, 2);
    x.draft("self:* self:* text:2 text:3");
    x.rule(0, 1);
    x.token(15, 6);
    due("a shorter draft behind it", x.select(3), 8);
    due("a shorter rule behind it", x.rule(0, 1), OK);
    x.puts(OK, 1);
  }

  private static void placing() {
    wrongRule("", 0);
    wrongRule("text:1", 0);
    wrongRule("[ 1 ] self:*", 0);
    wrongRule("self:* [", 2);
    wrongRule("self:* [ 1", 3);
    wrongRule("self:* [ ]", 2);
    wrongRule("self:* [ 1 2 ]", 3);
    wrongRule("self:* [ count self:* [ 1 ] ]", 4);
    wrongRule("self:* [ count ]", 3);
    wrongRule("self:* [ text:1 ]", 2);
    wrongRule("self:* ]", 1);
    wrongRule("self:* end", 1);
    wrongRule("self:* 1", 1);
    wrongRule("self:* text:1 self:*", 2);
    wrongRule("self:* text:1 [ 1 ]", 2);
    wrongRule("self:* element:1", 2);
    wrongRule("self:* element:1 end end", 3);
    wrongRule("self:* value", 2);
    wrongRule("self:* value 1 [ 1 ]", 3);
    wrongRule("self:* value text:1", 2);
    wrongRule("self:* apply", 2);
    wrongRule("self:* apply 1", 2);
    wrongRule("self:* if 1", 3);
    wrongRule("self:* if end", 2);
    wrongRule("self:* each end", 2);
    wrongRule("self:* each self:* text:1", 4);
    wrongRule("self:* each self:* [ 1 ] if 1 element:1 end end", 11);
    wrongPath("", 0);
    wrongPath("1", 0);
    wrongPath("self:* text:1", 1);
    wrongPath("self:* [ 1 ] ]", 4);
    wrongPath("self:* [ not", 3);
    wrongPath("self:* [ 1 ] [ and 1", 7);
    wrongNumber("", 0);
    wrongNumber("self:*", 0);
    wrongNumber("1 2", 1);
    wrongNumber("add 1", 2);
    wrongNumber("not", 1);
    wrongNumber("not 1 1", 2);
    wrongNumber("add count self:* self:*", 4);
    wrongNumber("count self:* [ 1", 4);
    wrongNumber("sum self:* [ first child:* [ 1 ] ]", 5);
    wrongNumber("add 1 2 end", 3);
    Probe x = tree();
    x.draft("self:* self:* [");
    x.select(0);
    due("of select", x.place(), 3);
    x.selects("self:* [ 1 ]", 0, 0);
    x.draft("count self:* self:* [ ]");
    x.number(0);
    due("of number", x.place(), 4);
    x.isNumber("count self:* [ 1 ]", 0, 1);
    x.draft("self:* each self:* [ 1");
    x.rule(0, 0);
    due("of rule", x.place(), 5);
    x.gives(0, 0, "self:* [ 1 ]");
    x.draft("self:* self:* [ ]");
    x.select(0);
    due("of select again", x.place(), 3);
    longest();
    x.gives(0, 0, "self:*");
    x.selects("self:*", 0, 0);
    x.isNumber("1", 0, 1);
    x.clear();
    due("of the latest that was wrong", x.place(), 3);
    x.draft("self:* self:*");
    x.rule(9, 0);
    due("after BAD", x.place(), 3);
  }

  /** Thirty tokens: as many as a draft can have, in the forms that leave the most open. */
  private static void longest() {
    wrongNumber("add ".repeat(30).trim(), 30);
    wrongRule("self:*" + " element:1".repeat(29), 30);
    wrongRule("self:*" + " each self:*".repeat(14) + " each", 30);
    wrongRule("self:*" + " if 1".repeat(14) + " end", 30);
    Probe x = tree();
    x.isNumber("not ".repeat(29) + "0", 0, 1);
    x.isNumber("sub 1 ".repeat(14) + "5", 0, 5);
    x.selects("self:* ".repeat(29) + "child:*", 0, 1, 5, 7);
    x.gives(0, 0, "self:0" + " element:1".repeat(14) + " end".repeat(14) + " text:3");
    due("transform", x.transform(), OK);
    due("the last of it", x.output(28), 3);
    due("an end of it", x.output(27), 2000000);
  }

  private static void dropping() {
    Probe x = tree();
    x.gives(0, 0, "self:* text:1");
    x.gives(5, 1, "self:* text:2");
    due("rule 6", x.drop(6), false);
    due("rule -1", x.drop(-1), false);
    due("rule 1", x.drop(1), false);
    due("rule 5", x.drop(5), true);
    due("rule 5 again", x.drop(5), false);
    x.puts(OK, 1, 1);
    due("rule 0", x.drop(0), true);
    due("none is left", x.ruleFor(0), -1);
  }

  private static void selecting() {
    Probe x = tree();
    x.selects("self:*", 3, 3);
    x.selects("self:1", 3);
    x.selects("child:*", 0, 1, 5, 7);
    x.selects("child:1", 0, 1, 5);
    x.selects("child:*", 4);
    x.selects("parent:*", 4, 3);
    x.selects("parent:1", 4);
    x.selects("parent:*", 0);
    x.selects("descendant:*", 1, 2, 3, 4);
    x.selects("ancestor:*", 4, 0, 1, 3);
    x.selects("next:*", 1, 5, 7);
    x.selects("next:*", 0);
    x.selects("before:*", 7, 1, 5);
    x.selects("before:*", 0);
    x.selects("behind:*", 3, 5, 6, 7);
    x.selects("behind:*", 0);
    x.selects("ahead:*", 6, 1, 2, 3, 4);
    x.selects("ahead:*", 4, 2);
    x.selects("child:1 child:2", 0, 2, 3, 6);
    x.selects("descendant:* parent:*", 0, 0, 1, 3, 5);
    x.selects("child:* [ same pos 1 ]", 0, 1);
    x.selects("child:* [ same pos last ]", 0, 7);
    x.selects("ancestor:* [ same pos 1 ]", 4, 3);
    x.selects("ancestor:* [ same pos last ]", 4, 0);
    x.selects("parent:* [ same pos 1 ]", 5, 0);
    x.selects("before:* [ same pos 1 ]", 7, 5);
    x.selects("ahead:* [ same pos 1 ]", 7, 6);
    x.selects("behind:* [ same pos 1 ]", 3, 5);
    x.selects("next:* [ same pos 1 ]", 1, 5);
    x.selects("descendant:* [ less 6 own ]", 0, 4, 6, 7);
    x.selects("descendant:* [ less 1 pos ] [ same pos 1 ]", 0, 2);
    x.selects("descendant:* [ same own 9 ] [ last ]", 0, 7);
    x.selects("descendant:2 [ same last 3 ] [ less pos 3 ] [ same last 2 ]", 0, 2, 3);
    x.selects("child:* child:* [ same pos 1 ]", 0, 2, 6);
    x.selects("child:* [ same count child:2 2 ]", 0, 1);
    x.selects("child:* [ sum child:2 child:0 ]", 0, 1);
    due("node 8", x.select(8), BAD);
    due("node -1", x.select(-1), BAD);
    due("draft stays", x.wipe(), 6);
    Probe whole = new Probe();
    whole.open(0, 0);
    for (int k = 1; k < 24; k++) { whole.open(1, k); whole.close(); }
    whole.draft("child:*");
    due("all children", whole.select(0), 0xFFFFFE);
    whole.draft("before:* [ same pos last ]");
    due("farthest before", whole.select(23), 2);
    whole.draft("ahead:*");
    due("all ahead", whole.select(23), 0x7FFFFE);
    whole.draft("behind:* [ same pos last ]");
    due("farthest behind", whole.select(1), 1 << 23);
    whole.draft("ancestor:* child:* [ count ahead:* ]");
    due("all but the first", whole.select(5), 0xFFFFFC);
  }

  private static void numbering() {
    Probe x = tree();
    x.isNumber("-5", 0, -5);
    x.isNumber("pos", 7, 1);
    x.isNumber("last", 7, 1);
    x.isNumber("own", 6, 8);
    x.isNumber("count descendant:2", 0, 3);
    x.isNumber("sum descendant:2", 0, 19);
    x.isNumber("first descendant:2", 0, 5);
    x.isNumber("first ancestor:*", 4, 10);
    x.isNumber("sum ancestor:*", 4, 17);
    x.isNumber("first child:*", 4, 0);
    x.isNumber("sum child:*", 4, 0);
    x.isNumber("count child:* [ less own 5 ] child:* [ same pos last ]", 0, 2);
    x.isNumber("sub 3 10", 0, -7);
    x.isNumber("mul add 2 3 sub 9 own", 7, 0);
    x.isNumber("sub sub 9 3 sub 2 1", 0, 5);
    x.isNumber("less 1 2", 0, 1);
    x.isNumber("less 2 2", 0, 0);
    x.isNumber("less -2147483648 2147483647", 0, 1);
    x.isNumber("same 2 2", 0, 1);
    x.isNumber("same 2 -2", 0, 0);
    x.isNumber("and 2 4", 0, 1);
    x.isNumber("and 2 0", 0, 0);
    x.isNumber("and 0 2", 0, 0);
    x.isNumber("or 0 -4", 0, 1);
    x.isNumber("or 4 0", 0, 1);
    x.isNumber("or 0 0", 0, 0);
    x.isNumber("not 7", 0, 0);
    x.isNumber("not 0", 0, 1);
    x.isNumber("add 2147483647 1", 0, INT_MIN);
    x.isNumber("sub -2147483648 1", 0, INT_MAX);
    x.isNumber("mul 65536 65536", 0, 0);
    x.relabel(2, 2, INT_MAX);
    x.isNumber("sum descendant:2", 0, INT_MIN + 13L);
    x.isNumber("add sum self:* sub count child:* [ own ] first next:*", 1, 1 + 2 - 2);
    due("node 8", x.number(8), Long.MIN_VALUE);
    due("node -1", x.number(-1), Long.MIN_VALUE);
    due("draft stays", x.wipe(), 11);
  }

  private static void choosing() {
    Probe x = tree();
    due("no rules", x.ruleFor(0), -1);
    due("node 8", x.ruleFor(8), BAD - 1);
    due("node -1", x.ruleFor(-1), BAD - 1);
    x.gives(0, 0, "self:2");
    due("by itself", x.ruleFor(2), 0);
    due("another name", x.ruleFor(1), -1);
    x.gives(1, 1, "child:1 child:2");
    due("by an ancestor", x.ruleFor(6), 1);
    x.gives(2, 1, "child:2");
    due("equal, given later", x.ruleFor(6), 2);
    x.gives(1, 1, "child:1 child:2");
    due("given anew", x.ruleFor(6), 1);
    x.draft("child:2 pos");
    x.rule(2, 5);
    due("a wrong one changes nothing", x.ruleFor(6), 1);
    x.gives(1, -1, "child:1 child:2");
    due("a lower priority", x.ruleFor(6), 2);
    x.gives(3, INT_MIN, "self:*");
    due("the lowest priority", x.ruleFor(6), 2);
    due("the lowest alone", x.ruleFor(0), 3);
    x.gives(4, INT_MAX, "next:*");
    due("selected from no ancestor", x.ruleFor(5), 3);
    x.gives(4, INT_MAX, "parent:*");
    due("selected from a descendant", x.ruleFor(1), 3);
    x.gives(4, INT_MAX, "child:* [ same pos 2 ] parent:* child:3");
    due("over a detour", x.ruleFor(7), 4);
    due("not itself", x.ruleFor(5), 3);
  }

  private static void transforming() {
    Probe x = tree();
    x.puts(OK, 8, 5, 7, 8, 9);
    x.gives(0, 0, "self:1 element:4 value pos value last apply child:* end text:-1");
    x.puts(OK, 8, 1000004, 1, 3, 5, 7, 2000000, -1, 1000004, 2, 3, 8, 2000000, -1, 9);
    x.gives(1, 0, "self:2 value pos value last value count ancestor:*");
    x.puts(OK, 7, 1000004, 1, 3, 1, 2, 2, 2, 2, 2, 2000000, -1, 1000004, 2, 3, 1, 1, 2, 2000000, -1, 9);
    x.gives(2, 1, "self:0 each child:* if same pos last text:77 end value mul 10 pos value last end value pos");
    x.puts(OK, 4, 10, 3, 20, 3, 77, 30, 3, 1);
    x.gives(2, 1, "self:0 apply descendant:* ancestor:* [ 1 ] self:1");
    x.puts(OK, 6, 1000004, 1, 2, 1, 2, 2, 2, 2, 2, 2000000, -1, 1000004, 2, 2, 1, 1, 2, 2000000, -1);
    x.gives(2, 1, "self:0 apply behind:* each behind:* text:1 end text:2");
    x.puts(OK, 1, 2);
    x.gives(2, 1, "self:0 if 0 element:1 text:1 end if 1 text:1 end end text:5 if -1 element:2 if 1 end end end");
    x.puts(OK, 1, 5, 1000002, 2000000);
    x.gives(2, 1, "self:0 element:1 end element:2 element:3 end text:4 end if 1 element:5 end end");
    x.puts(OK, 1, 1000001, 2000000, 1000002, 1000003, 2000000, 4, 2000000, 1000005, 2000000);
    x.gives(2, 1, "self:0 each child:1 each child:2 value own value pos end value pos value own end");
    x.puts(OK, 6, 5, 1, 6, 2, 1, 1, 8, 1, 2, 2);
    Probe open = new Probe();
    open.open(0, 1);
    open.open(0, 2);
    open.puts(OK, 2, 2);
    due("goes on", open.open(0, 3), 2);
  }

  private static void limits() {
    Probe x = new Probe();
    x.open(0, 5);
    x.gives(0, 0, "self:* text:1 element:2 apply self:* end");
    due("self within self", x.transform(), DEEP);
    due("its steps", x.steps(), 12);
    due("its size", x.size(), 24);
    x.gives(0, 0, "self:* text:1 if less pos 2 apply child:* end");
    x.puts(OK, 1, 1);
    due("eleven more", deepest(11, "child:*"), OK);
    due("twelve more", deepest(12, "child:*"), DEEP);
    due("an empty list", deepest(11, "child:* apply child:*"), DEEP);
    due("an empty EACH", deepest(11, "child:* each child:* end"), DEEP);
    due("an empty EACH of a lesser depth", deepest(10, "child:* each child:* end"), OK);
    wide();
  }

  /** A chain of nodes, each of which but the last applies rules to the next one. */
  private static int deepest(int more, String paths) {
    Probe x = new Probe();
    for (int k = 0; k <= more; k++) x.open(k == more ? 1 : 0, k);
    x.gives(0, 0, "self:0 apply child:*");
    String[] parts = paths.split(" ", 2);
    x.gives(1, 0, "self:1 " + (parts.length > 1 ? parts[1] : "text:4"));
    return x.transform();
  }

  private static void wide() {
    Probe x = new Probe();
    x.open(0, 0);
    for (int k = 1; k < 24; k++) { x.open(1, k); x.close(); }
    x.gives(0, 0, "self:0 each child:* [ less pos 12 ] text:1 each next:* [ less pos 13 ] end end text:9");
    // 1, 11 and 12 for each of them while enough later ones are left
    due("144 steps", x.transform(), OK);
    due("their number", x.steps(), 1 + 11 + 11 * 12);
    x.gives(0, 0, "self:0 each child:* [ less pos 12 ] text:1 each next:* [ less pos 13 ] text:2 end end "
        + "apply child:* [ less pos 7 ]");
    due("150 steps", x.transform(), OK);
    due("their number", x.steps(), 150);
    due("their size", x.size(), 11 + 132 + 6);
    x.gives(0, 0, "self:0 each child:* [ less pos 12 ] text:1 each next:* [ less pos 13 ] text:2 end end "
        + "element:1 apply child:* [ less pos 8 ] end");
    due("a handled node too many", x.transform(), LONG);
    due("their number", x.steps(), 150);
    due("what was put out stays", x.size(), 11 + 132 + 1 + 6);
    x.gives(0, 0, "self:0 each child:* [ less pos 12 ] text:1 each next:* [ less pos 13 ] text:2 end end "
        + "each child:* [ less pos 8 ] text:1 end");
    due("an EACH too many", x.transform(), LONG);
    due("their size", x.size(), 11 + 132 + 6);
    due("the 60th", x.output(59), 2);
    due("the 61st", x.output(60), 0);
  }

  private static void readingOutput() {
    Probe x = tree();
    x.transform();
    due("size", x.size(), 4);
    due("output 3", x.output(3), 9);
    due("output 4", x.output(4), 0);
    due("output -1", x.output(-1), 0);
    due("output far off", x.output(INT_MAX), 0);
    due("output farther off", x.output(INT_MIN), 0);
    x.clear();
    due("size stays", x.size(), 4);
    due("steps stay", x.steps(), 8);
    due("empty", x.transform(), BAD);
    due("size after BAD", x.size(), 0);
    due("steps after BAD", x.steps(), 0);
    due("output after BAD", x.output(0), 0);
    x.open(0, 6);
    x.transform();
    due("size of the latest", x.size(), 1);
    due("output of the latest", x.output(0), 6);
    due("not of an earlier one", x.output(1), 0);
  }

  private static void manyOutputs() {
    Probe x = new Probe();
    x.open(0, 0);
    for (int k = 1; k < 24; k++) { x.open(1, k); x.close(); }
    x.gives(0, 0, "self:0 each child:* value own value pos value last end");
    due("transform", x.transform(), OK);
    due("size", x.size(), 69);
    due("output 57", x.output(57), 20);
    due("output 59", x.output(59), 23);
    due("output 60", x.output(60), 0);
    due("output 68", x.output(68), 0);
  }

  private static void order() {
    Probe x = new Probe();
    x.draft("pos");
    due("rule: BAD first", x.rule(6, 0), BAD);
    due("select: node first", x.select(0), BAD);
    due("place as it was", x.place(), -1);
    x.open(0, 0);
    due("select", x.select(0), -SYNTAX);
    due("place", x.place(), 0);
    x.draft("pos pos");
    due("number: node first", x.number(1), Long.MIN_VALUE);
    due("place as it was", x.place(), 0);
    due("number", x.number(0), Long.MIN_VALUE + 1);
    due("place", x.place(), 1);
    due("rule: SYNTAX", x.rule(0, 0), SYNTAX);
    due("the draft is empty", x.wipe(), 0);
    due("place of rule", x.place(), 0);
  }

  public static void main(String[] args) {
    Runnable[] tests = {PromiseTest::newObject, PromiseTest::opening, PromiseTest::closing,
        PromiseTest::clearing, PromiseTest::relabelling, PromiseTest::appending, PromiseTest::wiping,
        PromiseTest::giving, PromiseTest::placing, PromiseTest::dropping, PromiseTest::selecting,
        PromiseTest::numbering, PromiseTest::choosing, PromiseTest::transforming,
        PromiseTest::readingOutput, PromiseTest::manyOutputs, PromiseTest::limits, PromiseTest::order};
    int promise = 0;
    Check.begin(300);
    for (Runnable test : tests) {
      promise++;
      Check.about("promise " + promise);
      Check.run(test);
    }
    Check.end("all promises are kept");
  }
}
