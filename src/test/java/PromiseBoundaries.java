/** Boundary cases of the promises, 1 to 18. */
final class PromiseBoundaries {
  private static final int MIN = Probe.MIN, MAX = Probe.MAX;
  private static final int OK = Probe.OK, LONG = Probe.LONG, DEEP = Probe.DEEP, SYNTAX = Probe.SYNTAX;
  private static final int BAD = Probe.BAD;
  private static final long NO_NODE = Probe.NO_NODE, NO_NUMBER = Probe.NO_NUMBER;
  private static final int[] NO_RULES = {-1, 6, 7, 32, MIN, MAX};

  private PromiseBoundaries() { }

  static void run() {
    newObject();
    openAndClose();
    clearAndRelabel();
    tokenAndWipe();
    rule();
    place();
    drop();
    select();
    number();
    ruleFor();
    transform();
    sizeOutputSteps();
    order();
    notPromised();
  }

  private static void section(String name) { Sentences.section(name); }

  private static void holds(String sentence, Runnable test) { Sentences.holds(sentence, test); }

  private static void due(String what, long got, long want) { Check.due(what, got, want); }

  private static void due(String what, boolean got, boolean want) { Check.due(what, got, want); }

  private static Probe tree() { return Probe.of(DraftBoundaries.TREE); }

  private static int[] range(int first, int last) { return DraftBoundaries.range(first, last); }

  /** Numbers that are no node's in a document of so many. */
  private static int[] noNodes(int nodes) { return new int[] {-1, nodes, nodes + 1, 24, 32, MIN, MAX}; }

  private static void isNew(Probe p) {
    due("close", p.close(), BAD);
    due("clear", p.clear(), 0);
    due("relabel", p.relabel(0, 0, 0), false);
    due("select", p.select(0), BAD);
    due("number", p.number(0), NO_NODE);
    due("ruleFor", p.ruleFor(0), BAD - 1);
    due("place", p.place(), -1);
    due("size", p.size(), 0);
    due("steps", p.steps(), 0);
    due("output", p.output(0), 0);
    due("transform", p.transform(), BAD);
    for (int r = 0; r < 6; r++) due("drop " + r, p.drop(r), false);
    due("wipe", p.wipe(), 0);
    due("open", p.open(0, 0), 0);
    due("ruleFor", p.ruleFor(0), -1);
    due("select of no tokens", p.select(0), -SYNTAX);
  }

  private static void newObject() {
    section("Promise 1: A new object");
    holds("An empty document, no rules, no tokens.", () -> {
      isNew(new Probe());
      Probe used = tree();
      used.gives(0, 0, "self:* text:1");
      used.noPath("self:* pos", 1);
      used.transform();
      isNew(new Probe());
    });
  }

  private static void openAndClose() {
    section("Promise 2: open");
    holds("Begins a node: its number.", () -> {
      Probe p = new Probe();
      for (int k = 0; k < 24; k++) due("node " + k, p.open(k % 6, k), k);
      p.clear();
      due("the first again", p.open(0, 0), 0);
    });
    holds("BAD if name is outside 0..5,", () -> {
      Probe p = new Probe();
      int[] names = {-1, 6, 7, MIN, MAX};
      for (int name : names) due("name " + name, p.open(name, 1), BAD);
      due("none was begun", p.clear(), 0);
      due("name 0", p.open(0, 1), 0);
      due("name 5", p.open(5, 2), 1);
      for (int name : names) due("name " + name, p.open(name, 1), BAD);
      due("the innermost is as it was", p.close(), 1);
      due("two were begun", p.clear(), 2);
    });
    holds("there are 24 nodes,", () -> {
      Probe p = new Probe();
      for (int k = 0; k < 23; k++) p.open(0, k);
      due("the 24th", p.open(0, 23), 23);
      due("the 25th", p.open(0, 24), BAD);
      due("the innermost is as it was", p.close(), 23);
      due("the 25th beside the 24th", p.open(0, 24), BAD);
      p.isNumber("own", 23, 23);
      while (p.close() > 0) due("the 25th further out", p.open(0, 24), BAD);
      due("the 25th behind the root", p.open(0, 24), BAD);
      due("24 nodes", p.clear(), 24);
      due("taken away", p.open(0, 0), 0);
    });
    holds("or there are nodes and none is open.", () -> {
      Probe p = new Probe();
      due("there are none", p.open(0, 1), 0);
      p.close();
      due("beside the root", p.open(0, 2), BAD);
      due("one node", p.clear(), 1);
      due("there are none again", p.open(0, 3), 0);
      p.open(0, 4);
      p.close();
      due("the root is open", p.open(0, 5), 2);
      p.close();
      p.close();
      due("beside the root", p.open(0, 6), BAD);
    });
    section("Promise 3: close");
    holds("Ends the innermost open node; its number, BAD if none is open.", () -> {
      Probe p = new Probe();
      due("no nodes", p.close(), BAD);
      for (int k = 0; k < 24; k++) p.open(0, k);
      for (int k = 23; k >= 0; k--) due("close", p.close(), k);
      due("all are ended", p.close(), BAD);
      due("and stay so", p.close(), BAD);
      p.clear();
      due("no nodes again", p.close(), BAD);
      p.open(0, 0);
      p.open(0, 1);
      p.clear();
      due("open ones taken away", p.close(), BAD);
      p.open(0, 0);
      p.open(0, 1);
      p.close();
      p.open(0, 2);
      due("the later one", p.close(), 2);
      due("the root", p.close(), 0);
    });
  }

  private static void clearAndRelabel() {
    section("Promise 4: clear");
    holds("Takes all nodes away; how many there were.", () -> {
      Probe p = new Probe();
      due("none", p.clear(), 0);
      p.open(0, 0);
      due("one, open", p.clear(), 1);
      due("none are left", p.clear(), 0);
      due("not the root either", p.select(0), BAD);
      due("nor for relabel", p.relabel(0, 0, 0), false);
      p.open(0, 0);
      p.close();
      due("one, ended", p.clear(), 1);
      for (int k = 0; k < 24; k++) p.open(0, 7);
      due("24", p.clear(), 24);
      due("the next is the root", p.open(1, 3), 0);
      p.selects("child:*", 0);
      p.selects("parent:*", 0);
      due("one", p.clear(), 1);
      // nothing of a document that was looked at is left in the next one of its size
      Notation.build(p, "0=1 0=2 0=3 . . 0=4 . .");
      p.selects("descendant:0", 0, 1, 2, 3);
      p.selects("child:0", 1, 2);
      Notation.build(p, "1=5 1=6 . 1=7 1=8 . . .");
      p.selects("child:*", 0, 1, 2);
      p.selects("child:*", 1);
      p.selects("child:*", 2, 3);
      p.selects("descendant:*", 1);
      p.selects("descendant:0", 0);
      p.selects("ancestor:*", 3, 0, 2);
      p.selects("ahead:*", 3, 1);
    });
    section("Promise 5: relabel");
    holds("Gives a node another name and value.", () -> {
      Probe p = Probe.flat();
      p.selects("self:0", 0, 0);
      p.selects("child:1", 0, range(1, 23));
      due("the root", p.relabel(0, 5, MIN), true);
      due("the last", p.relabel(23, 0, MAX), true);
      p.isNumber("own", 0, MIN);
      p.isNumber("own", 23, MAX);
      p.selects("self:5", 0, 0);
      p.selects("self:0", 0);
      p.selects("child:0", 0, 23);
      p.selects("child:1", 0, range(1, 22));
      due("the same again", p.relabel(23, 0, MAX), true);
      p.isNumber("own", 22, 22);
      p.selects("self:1", 22, 22);
      for (int name = 0; name < 6; name++) {
        due("name " + name, p.relabel(22, name, name), true);
        p.gives(name, 0, "self:" + name);
        due("the rule for it", p.ruleFor(22), name);
        p.selects("self:" + (name + 5) % 6, 22);
      }
      due("an open node", Probe.chain(2).relabel(1, 0, 0), true);
    });
    holds("False, changing nothing, if there is no such node or name is outside.", () -> {
      Probe p = tree();
      for (int node : noNodes(8)) due("node " + node, p.relabel(node, 1, 99), false);
      for (int name : new int[] {-1, 6, 7, MIN, MAX}) due("name " + name, p.relabel(3, name, 99), false);
      due("both", p.relabel(8, 6, 99), false);
      p.isNumber("own", 3, 6);
      p.selects("self:2", 3, 3);
      p.isNumber("sum descendant:*", 0, 38);
      p.isNumber("count descendant:*", 0, 7);
      p.selects("descendant:1", 0, 1, 5);
      due("nor a node", p.clear(), 8);
      due("no nodes", p.relabel(0, 1, 99), false);
      due("and none from it", p.transform(), BAD);
    });
  }

  private static void tokenAndWipe() {
    section("Promise 6: token");
    holds("Appends a token to the draft.", () -> {
      Probe p = tree();
      p.wipe();
      due("a token", p.token(15, 14), true);
      due("the draft", p.select(0), 0b10100010);
      due("one behind it", p.token(15, 14), true);
      due("the draft", p.select(0), 0b01001100);
      due("two", p.wipe(), 2);
    });
    holds("False, changing nothing, if kind is none of those named,", () -> {
      Probe p = tree();
      p.draft("child:*");
      for (int kind : new int[] {-1, 18, 19, 27, 28, 32, MIN, MAX}) due("kind " + kind, p.token(kind, 0), false);
      due("the draft", p.select(0), 0b10100010);
      due("one token", p.wipe(), 1);
      for (int kind = 0; kind <= 26; kind++) {
        due("kind " + kind, p.token(kind, 0), kind != 18 && kind != 19);
      }
      due("all named", p.wipe(), 25);
    });
    holds("the value is not as said,", () -> {
      Probe p = tree();
      p.draft("child:*");
      for (int value : new int[] {-1, 7, 15, 63, 71, 72, 80, MIN, MAX}) due("STEP " + value, p.token(15, value), false);
      for (int value : new int[] {-1, 6, MIN, MAX}) due("ELEMENT " + value, p.token(21, value), false);
      due("the draft", p.select(0), 0b10100010);
      due("one token", p.wipe(), 1);
      for (int value : new int[] {0, 6, 8, 62, 64, 70}) due("STEP " + value, p.token(15, value), true);
      for (int value : new int[] {0, 5}) due("ELEMENT " + value, p.token(21, value), true);
      for (int value : new int[] {MIN, -1, MAX}) due("NUM " + value, p.token(0, value), true);
      for (int value : new int[] {MIN, -1, MAX}) due("TEXT " + value, p.token(20, value), true);
      due("all as said", p.wipe(), 14);
    });
    holds("or there are 30.", () -> {
      Probe p = tree();
      for (int k = 0; k < 29; k++) due("token " + k, p.token(15, 6), true);
      due("the 30th", p.token(15, 14), true);
      due("the 31st", p.token(15, 6), false);
      due("the 31st of another kind", p.token(0, 0), false);
      due("the draft", p.select(0), 0b10100010);
      due("thirty", p.wipe(), 30);
      for (int k = 0; k < 30; k++) due("token " + k, p.token(15, 6), true);
      due("the 31st", p.token(15, 6), false);
      due("a rule of 30", p.rule(0, 0), OK);
      due("the first of another draft", p.token(15, 6), true);
    });
    section("Promise 7: wipe");
    holds("Removes all tokens of the draft; answers their number.", () -> {
      Probe p = tree();
      due("none", p.wipe(), 0);
      p.token(15, 14);
      due("one", p.wipe(), 1);
      due("none are left", p.wipe(), 0);
      due("select of none", p.select(0), -SYNTAX);
      due("its place", p.place(), 0);
      for (int k = 0; k < 30; k++) p.token(0, k);
      p.token(0, 30);
      due("thirty", p.wipe(), 30);
      p.token(0, 9);
      due("nothing of them is left behind the next", p.number(0), 9);
      p.draft("parent:* ".repeat(30).trim());
      due("thirty", p.wipe(), 30);
      p.token(15, 14);
      due("nothing of them is left behind the next", p.select(0), 0b10100010);
      p.token(18, 0);
      due("refused ones do not count", p.wipe(), 1);
    });
  }

  private static void rule() {
    section("Promise 8: rule");
    holds("The draft, which is empty after it, must be a PATH and then a BODY;", () -> {
      Probe p = tree();
      p.noRule("", 0);
      p.noRule("text:1", 0);
      p.noRule("self:* 1", 1);
      p.noRule("self:* [ 1 ] end", 4);
      p.gives(0, 0, "self:*");
      due("empty after OK", p.wipe(), 0);
      p.gives(0, 0, "self:* [ 1 ] self:* text:1");
      due("select of none", p.select(0), -SYNTAX);
      due("its place", p.place(), 0);
      p.noRule("self:* text:1 pos", 2);
      due("empty after SYNTAX", p.wipe(), 0);
    });
    holds("they become those of rule r with this priority: OK.", () -> {
      Probe p = tree();
      p.gives(5, MIN, "self:*" + " text:1".repeat(29));
      due("its body", p.transform(), OK);
      due("all of it", p.size(), 29);
      p.gives(5, MIN, "self:* text:2");
      p.puts(OK, 1, 2);
      p.gives(0, MAX, "self:1 text:3");
      due("its pattern", p.ruleFor(0), 5);
      due("its priority", p.ruleFor(1), 0);
      p.gives(0, MIN, "self:* text:3");
      due("given later", p.ruleFor(0), 0);
      p.gives(5, MIN + 1, "self:0");
      due("another priority", p.ruleFor(0), 5);
      p.puts(OK, 1);
    });
    holds("Else SYNTAX (see place), and the rule stays.", () -> {
      Probe p = tree();
      p.noRule("self:* text:2 pos", 2);
      due("an absent one stays absent", p.ruleFor(0), -1);
      due("absent", p.drop(0), false);
      p.gives(0, 5, "self:* text:1");
      p.gives(1, 4, "self:* text:2");
      p.draft("self:* text:9 pos");
      due("a wrong draft", p.rule(0, 3), SYNTAX);
      due("its priority stays", p.ruleFor(0), 0);
      p.puts(OK, 1, 1);
      p.draft("text:9");
      due("a wrong draft", p.rule(1, 9), SYNTAX);
      due("the other's priority stays", p.ruleFor(0), 0);
      p.draft("");
      due("an empty draft", p.rule(0, 0), SYNTAX);
      p.puts(OK, 1, 1);
      due("there", p.drop(0), true);
    });
    holds("BAD, and the draft stays, if r is outside 0..5.", () -> {
      Probe p = tree();
      p.draft("child:*");
      for (int r : NO_RULES) due("rule " + r, p.rule(r, 0), BAD);
      due("the draft", p.select(0), 0b10100010);
      for (int node = 0; node < 8; node++) due("no rule came", p.ruleFor(node), -1);
      due("one token", p.wipe(), 1);
      due("rule of none", p.rule(6, 0), BAD);
      p.gives(5, 0, "self:*");
      p.gives(0, 0, "self:*");
    });
  }

  private static void place() {
    section("Promise 9: place");
    holds("Of the latest rule, select or number that answered SYNTAX:", () -> {
      Probe p = tree();
      p.noRule("self:* pos", 1);
      p.noPath("self:* self:* pos", 2);
      p.noNumber("add 1 2 3", 3);
      p.noRule("pos", 0);
      p.noNumber("add 1 2 3", 3);
      p.noPath("self:* self:* pos", 2);
      p.selects("self:*", 0, 0);
      due("after a right select", p.place(), 2);
      p.isNumber("1", 0, 1);
      due("after a right number", p.place(), 2);
      p.gives(0, 0, "self:*");
      due("after a right rule", p.place(), 2);
      p.draft("pos");
      p.rule(6, 0);
      due("after a BAD rule", p.place(), 2);
      p.select(8);
      due("after a BAD select", p.place(), 2);
      p.draft("self:*");
      p.number(-1);
      due("after a number of no node", p.place(), 2);
      p.wipe();
      p.drop(0);
      p.transform();
      p.clear();
      due("after the others", p.place(), 2);
      due("asked again", p.place(), 2);
    });
    holds("the first token such that nothing allowed there begins with the tokens up to it and with it,", () -> {
      Probe p = tree();
      p.noPath("]", 0);
      p.noPath("] ] ]", 0);
      p.noPath("self:* text:1 ] pos", 1);
      p.noPath("self:* ".repeat(29) + "pos", 29);
      p.noPath("self:* [ add 1 ] self:*", 4);
      p.noPath("self:* [ count ]", 3);
      p.noNumber("not ".repeat(29) + "]", 29);
      p.noNumber("self:* self:*", 0);
      p.noNumber("add 1 end 2", 2);
      p.noNumber("count self:* [ 1 ] text:1", 5);
      p.noRule("self:* " + "text:1 ".repeat(28) + "end", 29);
      p.noRule("self:* element:1 text:1 end end", 4);
      p.noRule("self:* if 1 ] end", 3);
      p.noRule("self:* each self:* [ pos pos ] end", 5);
      // one and the same draft, and what is allowed there
      p.draft("self:* text:1");
      due("no PATH", p.select(0), -SYNTAX);
      due("its place", p.place(), 1);
      due("no NUMBER", p.number(0), NO_NUMBER);
      due("its place", p.place(), 0);
      due("a PATH and a BODY", p.rule(0, 0), OK);
      due("the place stays", p.place(), 0);
    });
    holds("or their number if it breaks off.", () -> {
      Probe p = tree();
      p.noPath("", 0);
      p.noNumber("", 0);
      p.noRule("", 0);
      p.noPath("self:* [", 2);
      p.noPath("self:* [ 1", 3);
      p.noPath("self:* [ add 1", 4);
      p.noNumber("not", 1);
      p.noNumber("count", 1);
      p.noNumber("mul ".repeat(30).trim(), 30);
      p.noRule("self:* value", 2);
      p.noRule("self:* each self:*", 3);
      p.noRule("self:*" + " element:1".repeat(29), 30);
      p.noPath("self:* ".repeat(29) + "[", 30);
    });
    holds("-1 if none did.", () -> {
      Probe p = tree();
      due("none was called", p.place(), -1);
      p.selects("self:*", 0, 0);
      p.isNumber("1", 0, 1);
      p.gives(0, 0, "self:*");
      due("all were right", p.place(), -1);
      p.draft("pos pos");
      due("no such rule", p.rule(6, 0), BAD);
      due("no such node", p.select(8), BAD);
      due("no such node", p.number(8), NO_NODE);
      due("none answered SYNTAX", p.place(), -1);
    });
  }

  private static void drop() {
    section("Promise 10: drop");
    holds("Rule r is absent from now on: whether it was there.", () -> {
      Probe p = tree();
      for (int r = 0; r < 6; r++) due("absent " + r, p.drop(r), false);
      for (int r = 0; r < 6; r++) p.gives(r, r, "self:*");
      for (int r : NO_RULES) due("outside " + r, p.drop(r), false);
      for (int r = 0; r < 6; r++) {
        due("the rule for it", p.ruleFor(0), 5);
        due("there " + r, p.drop(r), true);
      }
      for (int r = 0; r < 6; r++) p.gives(r, r, "self:*");
      for (int r = 5; r >= 0; r--) {
        due("the rule for it", p.ruleFor(0), r);
        due("there " + r, p.drop(r), true);
        due("absent " + r, p.drop(r), false);
      }
      due("none is left", p.ruleFor(0), -1);
      p.puts(OK, 8, 5, 7, 8, 9);
      p.gives(3, 0, "self:*");
      due("there again", p.ruleFor(0), 3);
      due("there again", p.drop(3), true);
      p.noRule("self:* pos", 1);
      due("not by a wrong draft", p.drop(0), false);
    });
  }

  private static void select() {
    section("Promise 11: select");
    holds("The draft (it stays) must be a PATH: the sum of 2 to the power k for the nodes k that it selects from the "
        + "node.", () -> {
      Probe p = Probe.flat();
      p.draft("self:*");
      due("the root", p.select(0), 1);
      due("the last", p.select(23), 1 << 23);
      due("the draft stays", p.wipe(), 1);
      p.draft("child:*");
      due("all but the root", p.select(0), 0xFFFFFE);
      due("none", p.select(1), 0);
      due("again", p.select(0), 0xFFFFFE);
      due("the draft stays", p.wipe(), 1);
    });
    holds("BAD if there is no such node;", () -> {
      Probe p = tree();
      p.draft("self:*");
      for (int node : noNodes(8)) due("select " + node, p.select(node), BAD);
      due("the first", p.select(0), 1);
      due("the last", p.select(7), 128);
      due("the draft stays", p.wipe(), 1);
      Probe full = Probe.chain(24);
      full.draft("self:*");
      due("node 24", full.select(24), BAD);
      full.clear();
      due("none are left", full.select(0), BAD);
    });
    holds("-SYNTAX if it is no PATH.", () -> {
      Probe p = tree();
      p.noPath("", 0);
      p.noPath("count self:*", 0);
      p.noPath("self:* [", 2);
      p.noPath("self:* self:* text:1", 2);
      due("the draft stays", p.wipe(), 3);
    });
  }

  private static void number() {
    section("Promise 12: number");
    holds("The draft (it stays) must be a NUMBER: what it is for the node, with POSITION 1 and SIZE 1, as a "
        + "long.", () -> {
      Probe p = Probe.flat();
      p.isNumber("-2147483648", 0, -2147483648L);
      p.isNumber("2147483647", 0, 2147483647L);
      p.isNumber("-1", 0, -1L);
      p.isNumber("own", 23, 23);
      due("the draft stays", p.number(22), 22);
      due("one token", p.wipe(), 1);
      p.isNumber("pos", 23, 1);
      p.isNumber("last", 23, 1);
      p.isNumber("mul add pos 1 add last 2", 23, 6);
    });
    holds("The least long if there is no such node;", () -> {
      Probe p = tree();
      p.draft("own");
      for (int node : noNodes(8)) due("number " + node, p.number(node), NO_NODE);
      due("the first", p.number(0), 10);
      due("the last", p.number(7), 9);
      due("the draft stays", p.wipe(), 1);
      due("no tokens and no node", p.number(8), NO_NODE);
    });
    holds("the least but one if it is no NUMBER.", () -> {
      Probe p = tree();
      p.noNumber("", 0);
      p.noNumber("self:*", 0);
      p.noNumber("1 2", 1);
      p.noNumber("add 1", 2);
      due("the draft stays", p.wipe(), 2);
    });
  }

  private static void ruleFor() {
    section("Promise 13: ruleFor");
    holds("The rule for a node; -1 if there is none, BAD - 1 if there is no such node.", () -> {
      Probe p = tree();
      for (int node = 0; node < 8; node++) due("no rules", p.ruleFor(node), -1);
      p.gives(5, 0, "self:3");
      p.gives(0, 0, "self:0");
      due("the first rule", p.ruleFor(0), 0);
      due("the last rule", p.ruleFor(7), 5);
      due("none that matches", p.ruleFor(6), -1);
      for (int node : noNodes(8)) due("ruleFor " + node, p.ruleFor(node), -2);
      p.clear();
      due("no nodes", p.ruleFor(0), -2);
    });
  }

  private static void transform() {
    section("Promise 14: transform");
    holds("Transforms the document.", () -> {
      tree().puts(OK, 8, 5, 7, 8, 9);
      Probe p = Probe.flat();
      p.gives(0, 0, "self:1 text:2");
      due("24 nodes", p.transform(), OK);
      due("their numbers", p.size(), 23);
      due("and again", p.transform(), OK);
      due("their numbers", p.size(), 23);
      p.relabel(1, 2, 77);
      p.transform();
      due("as it is now", p.output(0), 77);
    });
    holds("BAD if it is empty (nothing is put out then);", () -> {
      Probe p = new Probe();
      due("a new one", p.transform(), BAD);
      p.gives(0, 0, "self:* text:1");
      due("with a rule", p.transform(), BAD);
      due("put out", p.size(), 0);
      p.open(0, 5);
      p.puts(OK, 1, 1);
      p.clear();
      due("taken away", p.transform(), BAD);
      due("put out", p.size(), 0);
      due("the first", p.output(0), 0);
    });
    holds("else OK, LONG or DEEP.", () -> {
      Probe p = Probe.flat();
      p.gives(0, 0, "self:0 each child:* each child:* end end");
      p.puts(OK, 24);
      p.gives(0, 0, "self:0 each child:* each parent:* child:* end end");
      p.puts(LONG, 150);
      p.gives(0, 0, "self:0 apply self:*");
      p.puts(DEEP, 12);
    });
    holds("Open nodes count as they are.", () -> {
      Probe p = new Probe();
      p.open(0, 1);
      p.puts(OK, 1, 1);
      p.open(0, 2);
      p.puts(OK, 2, 2);
      p.open(0, 3);
      p.close();
      p.open(0, 4);
      p.puts(OK, 4, 3, 4);
      due("they are still open", p.close(), 3);
      due("they are still open", p.close(), 1);
      due("and take more", p.open(0, 5), 4);
      p.puts(OK, 5, 3, 4, 5);
    });
  }

  private static void sizeOutputSteps() {
    section("Promise 15: size");
    holds("How many numbers the latest transform put out.", () -> {
      Probe p = Probe.flat();
      putsSoMany(p, 20, "");
      due("60", p.size(), 60);
      putsSoMany(p, 20, " text:5");
      due("61", p.size(), 61);
      putsSoMany(p, 23, " text:5 text:6");
      due("71", p.size(), 71);
      due("asked again", p.size(), 71);
      p.gives(0, 0, "self:0");
      p.transform();
      due("none", p.size(), 0);
      p.gives(0, 0, "self:0 text:1 apply self:*");
      p.transform();
      due("till DEEP", p.size(), 12);
      p.gives(0, 0, "self:0 each child:* text:1 each parent:* child:* text:1 end end");
      p.transform();
      due("till LONG", p.size(), 149);
      p.drop(0);
      p.clear();
      due("of the latest still", p.size(), 149);
    });
    section("Promise 16: output");
    holds("The k-th of them (0 the first), for 0..59;", () -> {
      Probe p = Probe.flat();
      putsSoMany(p, 20, "");
      for (int k = 0; k < 60; k++) due("output " + k + " of 60", p.output(k), 10 * (k / 3 + 1) + k % 3);
      putsSoMany(p, 23, " text:5");
      due("output 0 of 70", p.output(0), 10);
      due("output 59 of 70", p.output(59), 202);
      due("output 60 of 70", p.output(60), 0);
      due("output 69 of 70", p.output(69), 0);
      p.clear();
      due("of the latest still", p.output(59), 202);
    });
    holds("0 if there is none.", () -> {
      Probe p = Probe.flat();
      due("no transform yet", p.output(0), 0);
      putsSoMany(p, 20, "");
      for (int k : new int[] {-1, 60, 61, MIN, MAX}) due("output " + k, p.output(k), 0);
      p.gives(0, 0, "self:0 text:7");
      p.transform();
      due("the only one", p.output(0), 7);
      for (int k : new int[] {-1, 1, 2, 59, 60, MIN, MAX}) due("output " + k, p.output(k), 0);
      p.gives(0, 0, "self:0");
      p.transform();
      due("none at all", p.output(0), 0);
    });
    section("Promise 17: steps");
    holds("How many STEPS it took.", () -> {
      Probe p = Probe.flat();
      due("no transform yet", p.steps(), 0);
      p.transform();
      due("24", p.steps(), 24);
      p.gives(0, 0, "self:0");
      p.transform();
      due("one", p.steps(), 1);
      p.gives(0, 0, "self:0 each child:* each parent:* child:* end end");
      p.transform();
      due("all of them", p.steps(), 150);
      p.gives(0, 0, "self:0 apply self:*");
      p.transform();
      due("till DEEP", p.steps(), 12);
      p.drop(0);
      p.clear();
      due("of the latest still", p.steps(), 12);
    });
  }

  /** Three numbers for each of so many children: ten times its position, one more and two more. */
  private static void putsSoMany(Probe p, int children, String more) {
    p.gives(0, 0, "self:0 each child:* [ less pos " + (children + 1)
        + " ] value mul 10 pos value add 1 mul 10 pos value add 2 mul 10 pos end" + more);
    due("transform", p.transform(), OK);
  }

  private static void order() {
    section("Promise 18: Order and limits");
    holds("rule: BAD is tested first;", () -> {
      Probe p = tree();
      p.draft("pos pos");
      for (int r : NO_RULES) due("rule " + r, p.rule(r, 0), BAD);
      due("no place of it", p.place(), -1);
      due("the draft stays", p.wipe(), 2);
      p.noPath("self:* pos", 1);
      due("rule of no tokens", p.rule(-1, 0), BAD);
      due("the place stays", p.place(), 1);
    });
    holds("the draft is empty afterwards also with SYNTAX.", () -> {
      Probe p = tree();
      p.draft("self:* pos");
      due("rule", p.rule(0, 0), SYNTAX);
      due("no tokens", p.wipe(), 0);
      p.draft("mul ".repeat(30).trim());
      due("rule", p.rule(5, 0), SYNTAX);
      due("room for another", p.token(15, 14), true);
      due("and nothing but it", p.select(0), 0b10100010);
    });
    holds("select and number: that there is no such node is tested first; place stays as it was then.", () -> {
      Probe p = new Probe();
      p.draft("self:* pos");
      due("select", p.select(0), BAD);
      due("number", p.number(0), NO_NODE);
      due("none yet", p.place(), -1);
      p.open(0, 0);
      due("select", p.select(0), -SYNTAX);
      due("its place", p.place(), 1);
      p.draft("pos pos pos");
      due("select", p.select(1), BAD);
      due("as it was", p.place(), 1);
      due("number", p.number(-1), NO_NODE);
      due("as it was", p.place(), 1);
      p.wipe();
      due("select of no tokens", p.select(24), BAD);
      due("number of no tokens", p.number(24), NO_NODE);
      due("as it was", p.place(), 1);
    });
    holds("transform: after BAD, size and steps are 0.", () -> {
      Probe p = Probe.flat();
      due("transform", p.transform(), OK);
      due("size", p.size(), 23);
      due("steps", p.steps(), 24);
      p.clear();
      due("size still", p.size(), 23);
      due("steps still", p.steps(), 24);
      due("transform", p.transform(), BAD);
      due("size", p.size(), 0);
      due("steps", p.steps(), 0);
      due("output", p.output(0), 0);
    });
  }

  private static void notPromised() {
    section("Not promised");
    Sentences.promisesNothing("How the state is held inside the object is free, as are the speed of each call, the "
        + "text of toString and the behaviour of equals and hashCode.");
    Sentences.promisesNothing("Use of one object from several threads at once is not promised to be safe.");
    Sentences.promisesNothing("Nothing is promised beyond the answers and state changes described above, and nothing "
        + "about an object after its 512th call.");
  }
}
