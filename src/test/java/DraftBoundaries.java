/** Boundary cases of the terms up to the STEP and its LIST: documents, tokens, numbers, paths. */
final class DraftBoundaries {
  private static final int MIN = Probe.MIN, MAX = Probe.MAX;
  private static final int OK = Probe.OK, DEEP = Probe.DEEP, BAD = Probe.BAD;
  // 0(name 0, value 10): 1(1, 1): 2(2, 5), 3(2, 6): 4(0, 7); 5(1, 2): 6(2, 8); 7(3, 9)
  static final String TREE = "0=10 1=1 2=5 . 2=6 0=7 . . . 1=2 2=8 . . 3=9 . .";

  private DraftBoundaries() { }

  static void run() {
    use();
    document();
    kinds();
    numberGrammar();
    pathGrammar();
    bodyGrammar();
    numbers();
    arithmetic();
    axes();
    conditions();
  }

  private static void holds(String sentence, Runnable test) { Sentences.holds(sentence, test); }

  private static void due(String what, long got, long want) { Check.due(what, got, want); }

  private static void due(String what, boolean got, boolean want) { Check.due(what, got, want); }

  private static Probe tree() { return Probe.of(TREE); }

  static int[] range(int first, int last) {
    int[] nodes = new int[last - first + 1];
    for (int k = first; k <= last; k++) nodes[k - first] = k;
    return nodes;
  }

  private static void use() {
    Sentences.section("What it is");
    Sentences.promisesNothing("A processor of documents by template rules: paths with axes, tests and conditions "
        + "select nodes of a tree; rules that match nodes say what is put out for them, and apply rules to other "
        + "nodes.");
    holds("An object is used for at most 512 calls after it has been made;", () -> {
      Probe rules = new Probe();
      rules.open(0, 7);
      for (int k = 0; k < 127; k++) {
        rules.token(15, 6);
        rules.token(20, k);
        due("rule given as the " + k + "th", rules.rule(k % 6, 0), OK);
        due("ruleFor then", rules.ruleFor(0), k % 6);
      }
      due("transform as the 510th call", rules.transform(), OK);
      due("output as the 511th call", rules.output(0), 126);
      due("steps as the 512th call", rules.steps(), 1);
      due("calls", rules.calls(), 512);
      Probe nodes = new Probe();
      for (int round = 0; round < 20; round++) {
        for (int k = 0; k < 24; k++) nodes.open(0, k);
        due("clear", nodes.clear(), 24);
      }
      for (int k = 0; k < 12; k++) due("open", nodes.open(0, 0), k);
      due("calls", nodes.calls(), 512);
      Probe runs = Probe.chain(1);
      runs.gives(0, 0, "self:* text:1 apply self:*");
      while (runs.calls() < 511) due("transform", runs.transform(), DEEP);
      due("size as the 512th call", runs.size(), 12);
    });
    holds("what later calls answer is free.", () -> {
      // free are the answers, but LANGUAGE.md's rule 7 lets no call throw or fail to end
      TemplateProcessor x = new TemplateProcessor();
      for (int k = 0; k < 2000; k++) {
        x.open(k % 7, k);
        x.token(k % 27, k % 80);
        x.token(15, 6);
        x.rule(k % 7, k);
        x.select(k % 25);
        x.number(k % 25);
        x.ruleFor(k % 25);
        x.transform();
        x.output(k % 61);
        if (k % 5 == 0) x.close();
        if (k % 97 == 0) x.clear();
      }
    });
  }

  private static void document() {
    Sentences.section("Terms");
    holds("DOCUMENT. A tree of at most 24 nodes;", () -> {
      Probe wide = Probe.flat();
      wide.selects("child:*", 0, range(1, 23));
      due("a 25th node", wide.open(0, 0), BAD);
      wide.selects("child:*", 0, range(1, 23));
      Probe deep = Probe.chain(24);
      deep.selects("ancestor:*", 23, range(0, 22));
      due("a 25th node", deep.open(0, 0), BAD);
      deep.selects("descendant:*", 0, range(1, 23));
      due("24 nodes", deep.clear(), 24);
    });
    holds("a node has a NAME 0..5 and an int VALUE;", () -> {
      Probe p = Probe.of("0=-2147483648 5=2147483647 1=0 4=-1");
      p.isNumber("own", 0, MIN);
      p.isNumber("own", 1, MAX);
      p.isNumber("own", 2, 0);
      p.isNumber("own", 3, -1);
      p.selects("self:0", 0, 0);
      p.selects("self:5", 1, 1);
      p.selects("self:0", 1);
      p.selects("self:5", 0);
    });
    holds("nodes are numbered from 0 (the root) in the order in which they were opened.", () -> {
      Probe p = new Probe();
      due("the root", p.open(0, 0), 0);
      due("its child", p.open(0, 0), 1);
      due("a grandchild", p.open(0, 0), 2);
      p.close();
      p.close();
      due("behind a closed subtree", p.open(0, 0), 3);
      p.open(6, 0);
      due("behind a refused one", p.open(0, 0), 4);
      p.clear();
      due("the root of another document", p.open(0, 0), 0);
    });
    holds("Building: open() begins a node as the last child of the innermost open one, close() ends that "
        + "one.", () -> {
      Probe p = new Probe();
      p.open(0, 0);
      p.selects("parent:*", 0);
      p.open(0, 1);
      p.selects("parent:*", 1, 0);
      p.open(0, 2);
      p.selects("parent:*", 2, 1);
      due("ends the innermost", p.close(), 2);
      p.open(0, 3);
      p.selects("parent:*", 3, 1);
      p.selects("before:*", 3, 2);
      p.selects("next:*", 3);
      due("ends the innermost", p.close(), 3);
      due("ends the one around it", p.close(), 1);
      p.open(0, 4);
      p.selects("parent:*", 4, 0);
      p.selects("before:*", 4, 1);
      Probe chain = Probe.chain(24);
      for (int node = 1; node < 24; node++) chain.selects("parent:*", node, node - 1);
    });
  }

  private static void kinds() {
    holds("TOKENS kind, value (looked at where it is named):", () -> {
      Probe p = Probe.of("0=5");
      int[][] number = {{7, MIN}, {1, MAX}, {3, -1}};
      for (int[] token : number) due("token", p.token(token[0], token[1]), true);
      due("ADD POS OWN", p.number(0), 6);
      p.wipe();
      int[][] path = {{15, 6}, {16, MIN}, {2, MAX}, {17, -7}};
      for (int[] token : path) due("token", p.token(token[0], token[1]), true);
      due("STEP [ LAST ]", p.select(0), 1);
      p.wipe();
      int[][] rule = {{15, 6}, {24, 99}, {0, 1}, {22, MIN}, {14, 6}, {0, 0}, {26, MAX}, {23, -9}, {15, 14},
          {25, 77}, {15, 14}, {26, 5}};
      for (int[] token : rule) due("token", p.token(token[0], token[1]), true);
      due("rule", p.rule(0, 0), OK);
      p.puts(OK, 1, 1);
    });
    holds("0 NUM (any int)", () -> {
      Probe p = Probe.of("0=5");
      p.isNumber("-2147483648", 0, MIN);
      p.isNumber("2147483647", 0, MAX);
      p.isNumber("0", 0, 0);
      p.isNumber("-1", 0, -1);
    });
    holds("1 POS 2 LAST 3 OWN 4 COUNT 5 SUM 6 FIRST 7 ADD 8 SUB 9 MUL 10 LESS 11 SAME 12 AND 13 OR 14 "
        + "NOT", () -> {
      Probe p = Probe.of("0=3 1=5 . 1=9 . .");
      long[] alone = {1, 1, 3};
      for (int kind = 1; kind <= 3; kind++) numberIs(p, alone[kind - 1], kind, 0);
      long[] ofChildren = {2, 14, 5};
      for (int kind = 4; kind <= 6; kind++) numberIs(p, ofChildren[kind - 4], kind, 0, 15, 14);
      long[] of2And3 = {5, -1, 6, 1, 0, 1, 1};
      for (int kind = 7; kind <= 13; kind++) numberIs(p, of2And3[kind - 7], kind, 0, 0, 2, 0, 3);
      long[] of2And0 = {2, 2, 0, 0, 0, 0, 1};
      for (int kind = 7; kind <= 13; kind++) numberIs(p, of2And0[kind - 7], kind, 0, 0, 2, 0, 0);
      numberIs(p, 0, 14, 0, 0, 2);
    });
    holds("15 STEP (8 * axis + test; axis 0..8, test 0..6)", () -> {
      Probe p = new Probe();
      for (int value = -20; value <= 100; value++) {
        boolean named = value >= 0 && value <= 70 && value % 8 != 7;
        due("STEP " + value, p.token(15, value), named);
        due("taken of it", p.wipe(), named ? 1 : 0);
      }
      int[] far = {MIN, MIN + 6, MAX, MAX - 7, -8, -64, 8 * 8 + 7, 8 * 9, 256, 65536};
      for (int value : far) due("STEP " + value, p.token(15, value), false);
      due("none stands", p.wipe(), 0);
    });
    holds("16 [ 17 ]", () -> {
      Probe p = Probe.of("0=5");
      int[][] path = {{15, 6}, {16, 0}, {0, 0}, {17, 0}};
      for (int[] token : path) due("token", p.token(token[0], token[1]), true);
      due("STEP [ 0 ]", p.select(0), 0);
      p.wipe();
      int[][] turned = {{15, 6}, {17, 0}, {0, 0}, {16, 0}};
      for (int[] token : turned) due("token", p.token(token[0], token[1]), true);
      due("STEP ] 0 [", p.select(0), -3);
      due("its place", p.place(), 1);
    });
    holds("20 TEXT (any int)", () -> {
      Probe p = Probe.of("0=5");
      p.gives(0, 0, "self:* text:-2147483648 text:2147483647 text:0 text:-1");
      p.puts(OK, 1, MIN, MAX, 0, -1);
    });
    holds("21 ELEMENT (0..5)", () -> {
      Probe p = new Probe();
      for (int value = -4; value <= 10; value++) {
        due("ELEMENT " + value, p.token(21, value), value >= 0 && value <= 5);
      }
      due("ELEMENT, the least", p.token(21, MIN), false);
      due("ELEMENT, the greatest", p.token(21, MAX), false);
      due("those taken", p.wipe(), 6);
    });
    holds("22 VALUE 23 APPLY 24 IF 25 EACH 26 END", () -> {
      Probe p = Probe.of("0=3 1=5 . 1=9 . .");
      int[][] rule = {{15, 0}, {22, 0}, {0, 4}, {23, 0}, {15, 14}, {24, 0}, {0, 0}, {20, 6}, {26, 0}, {25, 0},
          {15, 14}, {20, 7}, {26, 0}};
      for (int[] token : rule) due("token", p.token(token[0], token[1]), true);
      due("rule", p.rule(0, 0), OK);
      p.puts(OK, 5, 4, 5, 9, 7, 7);
    });
  }

  /** The number of a draft of these tokens, each told as its kind and its value. */
  private static void numberIs(Probe p, long want, int... tokens) {
    p.wipe();
    for (int k = 0; k < tokens.length; k += 2) {
      due("token " + tokens[k], p.token(tokens[k], tokens[k + 1]), true);
    }
    due("number of kind " + tokens[0], p.number(0), want);
  }

  private static void numberGrammar() {
    holds("NUMBER := NUM | POS | LAST | OWN | (COUNT | SUM | FIRST) PATH | (7 .. 13) NUMBER NUMBER | NOT "
        + "NUMBER", () -> {
      for (String word : "5 pos last own".split(" ")) {
        Probe p = tree();
        p.noNumber(word + " 5", 1);
        p.noNumber(word + " self:*", 1);
        p.noNumber(word + " [ 1 ]", 1);
        p.draft(word);
        due(word + " is a NUMBER", p.number(0) == Probe.NO_NUMBER, false);
      }
      for (String word : "count sum first".split(" ")) {
        Probe p = tree();
        p.noNumber(word, 1);
        p.noNumber(word + " 5", 1);
        p.noNumber(word + " " + word, 1);
        p.noNumber(word + " self:* 5", 2);
        p.draft(word + " self:*");
        due(word + " of a PATH is a NUMBER", p.number(0) == Probe.NO_NUMBER, false);
      }
      for (String word : "add sub mul less same and or".split(" ")) {
        Probe p = tree();
        p.noNumber(word, 1);
        p.noNumber(word + " 1", 2);
        p.noNumber(word + " 1 2 3", 3);
        p.noNumber(word + " self:*", 1);
        p.noNumber(word + " 1 ]", 2);
        p.draft(word + " 1 2");
        due(word + " of two is a NUMBER", p.number(0) == Probe.NO_NUMBER, false);
      }
      Probe p = tree();
      p.noNumber("not", 1);
      p.noNumber("not 1 2", 2);
      p.noNumber("not self:*", 1);
      p.isNumber("not 1", 0, 0);
      p.noNumber("", 0);
      for (String word : "self:* [ ] text:1 element:1 value apply if each end".split(" ")) p.noNumber(word, 0);
    });
    holds("PATH := a STEP, perhaps with conditions, and perhaps more of them: { STEP { [ NUMBER ] } }", () -> {
      Probe p = tree();
      p.noPath("", 0);
      p.noPath("[ 1 ]", 0);
      p.noPath("1", 0);
      p.noPath("text:1", 0);
      p.noPath("self:* ]", 1);
      p.noPath("self:* 1", 1);
      p.noPath("self:* text:1", 1);
      p.noPath("self:* [ ]", 2);
      p.noPath("self:* [ 1", 3);
      p.noPath("self:* [ 1 2 ]", 3);
      p.noPath("self:* [ self:* ]", 2);
      p.noPath("self:* [ text:1 ]", 2);
      p.noPath("self:* [ [ 1 ] ]", 2);
      p.noPath("self:* [ 1 ] ]", 4);
      p.noPath("self:* [ 1 ] 1", 4);
      p.selects("self:*", 0, 0);
      p.selects("self:*" + " [ 1 ]".repeat(9), 0, 0);
      p.selects("self:* [ 1 ] child:* [ 1 ] [ 1 ] child:* parent:* [ 1 ] self:*", 0, 1, 5);
      p.selects("self:* ".repeat(29) + "child:*", 0, 1, 5, 7);
    });
  }

  private static void pathGrammar() {
    holds("(in a condition no path has conditions;", () -> {
      Probe p = tree();
      p.noPath("self:* [ count self:* [ 1 ] ]", 4);
      p.noPath("self:* [ 1 ] [ sum self:* self:* [ 1 ] ]", 8);
      p.noPath("self:* [ add 1 first self:* [ 1 ] ]", 6);
      p.noNumber("count self:* [ count self:* [ 1 ] ]", 5);
      p.noRule("self:* [ count self:* [ 1 ] ]", 4);
      p.noRule("self:* apply self:* [ count self:* [ 1 ] ]", 6);
      p.noRule("self:* if count self:* [ count self:* [ 1 ] ] end", 7);
      p.noRule("self:* each self:* [ count self:* [ 1 ] ] end", 6);
      // outside of conditions, and behind one, a path has them
      p.selects("self:* [ count self:* ] [ 1 ] child:* [ same pos 1 ]", 0, 1);
      p.isNumber("add count self:* [ count self:* ] count child:* [ 1 ] [ 1 ]", 0, 4);
    });
    holds("a path goes on as long as STEPs follow)", () -> {
      Probe p = tree();
      p.isNumber("count child:1 child:2 child:0", 0, 1);
      p.noNumber("add count self:* self:*", 4);
      p.isNumber("add count child:1 child:2 1", 0, 4);
      p.noPath("self:* [ same count child:* child:* ]", 6);
      p.gives(0, 1, "child:1 child:2");
      due("the pattern is both", p.ruleFor(1), -1);
      due("the pattern is both", p.ruleFor(2), 0);
      p.gives(1, 2, "self:0 apply child:1 child:2");
      p.gives(0, 1, "self:* value own");
      p.puts(OK, 4, 5, 6, 8);
      p.gives(1, 2, "self:0 each child:* [ less 1 pos ] child:* [ 1 ] value own end");
      p.puts(OK, 2, 8);
    });
  }

  private static void bodyGrammar() {
    holds("BODY := { TEXT | ELEMENT BODY END | VALUE NUMBER | APPLY PATH | IF NUMBER BODY END | EACH PATH BODY "
        + "END }", () -> {
      Probe p = Probe.of("0=5");
      p.gives(0, 0, "self:*");
      p.puts(OK, 1);
      p.gives(0, 0, "self:* element:1 end if 1 end each self:* end");
      p.puts(OK, 2, 1000001, 2000000);
      p.gives(0, 0, "self:*" + " if 1 end".repeat(9) + " text:3");
      p.puts(OK, 1, 3);
      p.gives(0, 0, "self:*" + " element:0".repeat(14) + " end".repeat(14));
      due("fourteen within one another", p.transform(), OK);
      due("their numbers", p.size(), 28);
      p.gives(0, 0, "self:*" + " text:1".repeat(29));
      due("twenty-nine in a row", p.transform(), OK);
      due("their numbers", p.size(), 29);
      Probe wrong = new Probe();
      wrong.noRule("self:* end", 1);
      wrong.noRule("self:* text:1 end", 2);
      wrong.noRule("self:* element:1", 2);
      wrong.noRule("self:* element:1 end end", 3);
      wrong.noRule("self:* element:1 1 end", 2);
      wrong.noRule("self:* value", 2);
      wrong.noRule("self:* value end", 2);
      wrong.noRule("self:* value 1 2", 3);
      wrong.noRule("self:* value 1 end", 3);
      wrong.noRule("self:* apply", 2);
      wrong.noRule("self:* apply 1", 2);
      wrong.noRule("self:* apply self:* end", 3);
      wrong.noRule("self:* if", 2);
      wrong.noRule("self:* if end", 2);
      wrong.noRule("self:* if 1", 3);
      wrong.noRule("self:* if 1 2 end", 3);
      wrong.noRule("self:* each", 2);
      wrong.noRule("self:* each end", 2);
      wrong.noRule("self:* each self:*", 3);
      wrong.noRule("self:* each 1 end", 2);
      wrong.noRule("self:* text:1 pos", 2);
      wrong.noRule("self:* text:1 self:*", 2);
    });
  }

  private static void numbers() {
    holds("A NUMBER is worked out for a node, its POSITION and the SIZE of a list: NUM n: n.", () -> {
      Probe p = tree();
      // the same number for another node, another position, another size
      p.isNumber("own", 0, 10);
      p.isNumber("own", 7, 9);
      p.selects("child:* [ same pos 2 ]", 0, 5);
      p.selects("child:* [ same last 3 ]", 0, 1, 5, 7);
      p.selects("child:* [ same last 3 ]", 1);
      p.gives(0, 0, "self:* value 4 each child:* value 4 end");
      p.puts(OK, 4, 4, 4, 4, 4);
    });
    holds("POS: the POSITION.", () -> {
      Probe p = Probe.flat();
      p.selects("child:* [ same pos 0 ]", 0);
      p.selects("child:* [ same pos 1 ]", 0, 1);
      p.selects("child:* [ same pos 23 ]", 0, 23);
      p.selects("child:* [ same pos 24 ]", 0);
      p.gives(0, 0, "self:0 each child:* value pos end");
      p.puts(OK, 24, range(1, 23));
    });
    holds("LAST: the SIZE.", () -> {
      Probe p = Probe.flat();
      p.selects("child:* [ same last 23 ] [ same pos last ]", 0, 23);
      p.selects("next:* [ same last 1 ]", 22, 23);
      p.selects("self:* [ same last 1 ]", 0, 0);
      p.gives(0, 0, "self:0 each child:* [ less pos 3 ] value last end");
      p.puts(OK, 3, 2, 2);
    });
    holds("OWN: the node's value.", () -> {
      Probe p = Probe.of("0=-2147483648 0=2147483647 . 0=0 . .");
      p.isNumber("own", 0, MIN);
      p.isNumber("own", 1, MAX);
      p.isNumber("own", 2, 0);
      p.selects("child:* [ own ]", 0, 1);
    });
    holds("COUNT, SUM, FIRST of the nodes that the PATH selects from the node: how many, the sum of their values, "
        + "the value of the first in the document (0 if there are none).", () -> {
      Probe p = tree();
      for (String word : "count sum first".split(" ")) {
        p.isNumber(word + " child:*", 4, 0);
        p.isNumber(word + " child:5", 0, 0);
        p.isNumber(word + " parent:*", 0, 0);
        p.isNumber(word + " child:* [ 0 ]", 0, 0);
        p.isNumber(word + " child:5 child:*", 0, 0);
      }
      // a node that two of the nodes ahead lead to is one
      p.isNumber("count child:* parent:*", 0, 1);
      p.isNumber("sum child:* parent:*", 0, 10);
      // the first in the document, not in the list
      p.isNumber("first ancestor:*", 4, 10);
      p.isNumber("first before:*", 7, 1);
      p.isNumber("first ahead:*", 7, 1);
      Probe flat = Probe.flat();
      flat.isNumber("count child:*", 0, 23);
      flat.isNumber("sum child:*", 0, 276);
      flat.isNumber("first child:* [ same pos last ]", 0, 23);
      flat.isNumber("first child:*", 23, 0);
      p.isNumber("first parent:*", 1, 10);
      p.isNumber("first self:*", 0, 10);
    });
  }

  private static void arithmetic() {
    holds("Arithmetic wraps;", () -> {
      Probe p = Probe.of("0=2147483647 0=2147483647 . 0=1 . .");
      p.isNumber("add 2147483647 1", 0, MIN);
      p.isNumber("add -2147483648 -1", 0, MAX);
      p.isNumber("add 2147483647 2147483647", 0, -2);
      p.isNumber("sub -2147483648 1", 0, MAX);
      p.isNumber("sub 2147483647 -1", 0, MIN);
      p.isNumber("sub 0 -2147483648", 0, MIN);
      p.isNumber("mul 65536 65536", 0, 0);
      p.isNumber("mul 65536 32768", 0, MIN);
      p.isNumber("mul -2147483648 -1", 0, MIN);
      p.isNumber("mul 2147483647 2147483647", 0, 1);
      p.isNumber("sum child:*", 0, MIN);
      p.isNumber("add own own", 0, -2);
      p.isNumber("less add 2147483647 1 0", 0, 1);
      p.isNumber("same add 2147483647 1 -2147483648", 0, 1);
      p.isNumber("not mul 65536 65536", 0, 1);
      p.selects("child:* [ mul 65536 65536 ]", 0);
      p.gives(0, 0, "self:* value add own 1 if mul 65536 65536 text:1 end value sum child:*");
      p.puts(OK, 1, MIN, MIN);
    });
    holds("LESS, SAME, AND, OR, NOT give 1 or 0", () -> {
      Probe p = Probe.of("0=5");
      p.isNumber("less -2147483648 2147483647", 0, 1);
      p.isNumber("less 2147483647 -2147483648", 0, 0);
      p.isNumber("less 2147483647 2147483647", 0, 0);
      p.isNumber("less -1 0", 0, 1);
      p.isNumber("less 0 -1", 0, 0);
      p.isNumber("less 0 0", 0, 0);
      p.isNumber("less 4 5", 0, 1);
      p.isNumber("same -2147483648 -2147483648", 0, 1);
      p.isNumber("same -2147483648 2147483647", 0, 0);
      p.isNumber("same 0 0", 0, 1);
      p.isNumber("same 65536 0", 0, 0);
      p.isNumber("and 6 5", 0, 1);
      p.isNumber("or 6 5", 0, 1);
      p.isNumber("not 0", 0, 1);
      p.isNumber("not not 6", 0, 1);
    });
    holds("(AND, OR, NOT of whether numbers are not 0; all operands are always worked out).", () -> {
      Probe p = tree();
      p.isNumber("and 1 2", 0, 1);
      p.isNumber("and 65536 65536", 0, 1);
      p.isNumber("and -1 -2147483648", 0, 1);
      p.isNumber("and 0 1", 0, 0);
      p.isNumber("and 1 0", 0, 0);
      p.isNumber("and 0 0", 0, 0);
      p.isNumber("or 1 -1", 0, 1);
      p.isNumber("or -2147483648 -2147483648", 0, 1);
      p.isNumber("or 0 -5", 0, 1);
      p.isNumber("or -5 0", 0, 1);
      p.isNumber("or 0 0", 0, 0);
      p.isNumber("not -1", 0, 0);
      p.isNumber("not -2147483648", 0, 0);
      // the second operand is read also where the first decides
      p.noNumber("and 0", 2);
      p.noNumber("or 1", 2);
      p.isNumber("add and 0 count child:* 5", 0, 5);
      p.isNumber("add or 1 count child:* 5", 0, 6);
    });
  }

  private static void axes() {
    holds("A STEP from a node gives a LIST: of the nodes on its AXIS those that pass the TEST (0..5: that name; 6: "
        + "all):", () -> {
      Probe p = Probe.of("5=0 0=1 . 1=2 . 2=3 . 3=4 . 4=5 . 5=6 . 0=7 . .");
      p.selects("child:0", 0, 1, 7);
      for (int name = 1; name <= 5; name++) p.selects("child:" + name, 0, name + 1);
      p.selects("child:*", 0, range(1, 7));
      p.selects("self:5", 0, 0);
      p.selects("self:0", 0);
      p.selects("next:5", 6);
    });
    holds("axis 0 SELF,", () -> {
      Probe p = Probe.chain(24);
      p.selects("self:*", 0, 0);
      p.selects("self:*", 23, 23);
      p.selects("self:1", 22);
    });
    holds("1 CHILD,", () -> {
      Probe p = tree();
      p.selects("child:*", 0, 1, 5, 7);
      p.selects("child:*", 1, 2, 3);
      p.selects("child:*", 4);
      Probe.flat().selects("child:*", 0, range(1, 23));
      Probe.chain(1).selects("child:*", 0);
    });
    holds("2 PARENT,", () -> {
      Probe p = tree();
      p.selects("parent:*", 0);
      p.selects("parent:*", 1, 0);
      p.selects("parent:*", 4, 3);
      p.selects("parent:*", 7, 0);
      Probe.chain(24).selects("parent:*", 23, 22);
    });
    holds("3 DESCENDANT,", () -> {
      Probe p = tree();
      p.selects("descendant:*", 0, range(1, 7));
      p.selects("descendant:*", 1, 2, 3, 4);
      p.selects("descendant:*", 4);
      p.selects("descendant:*", 7);
      Probe.chain(24).selects("descendant:*", 0, range(1, 23));
    });
    holds("4 ANCESTOR,", () -> {
      Probe p = tree();
      p.selects("ancestor:*", 0);
      p.selects("ancestor:*", 1, 0);
      p.selects("ancestor:*", 4, 0, 1, 3);
      p.selects("ancestor:*", 6, 0, 5);
      Probe.chain(24).selects("ancestor:*", 23, range(0, 22));
    });
    holds("5 NEXT (later children of its parent),", () -> {
      Probe p = tree();
      p.selects("next:*", 0);
      p.selects("next:*", 1, 5, 7);
      p.selects("next:*", 7);
      p.selects("next:*", 2, 3);
      p.selects("next:*", 3);
      p.selects("next:*", 4);
      Probe.flat().selects("next:*", 1, range(2, 23));
    });
    holds("6 BEFORE (earlier ones),", () -> {
      Probe p = tree();
      p.selects("before:*", 0);
      p.selects("before:*", 1);
      p.selects("before:*", 7, 1, 5);
      p.selects("before:*", 3, 2);
      p.selects("before:*", 6);
      Probe.flat().selects("before:*", 23, range(1, 22));
    });
    holds("7 BEHIND (nodes after it in the document that are no descendants),", () -> {
      Probe p = tree();
      p.selects("behind:*", 0);
      p.selects("behind:*", 7);
      p.selects("behind:*", 1, 5, 6, 7);
      p.selects("behind:*", 2, range(3, 7));
      p.selects("behind:*", 4, 5, 6, 7);
      Probe.flat().selects("behind:*", 1, range(2, 23));
      Probe.chain(24).selects("behind:*", 0);
    });
    holds("8 AHEAD (nodes ahead of it that are no ancestors);", () -> {
      Probe p = tree();
      p.selects("ahead:*", 0);
      p.selects("ahead:*", 1);
      p.selects("ahead:*", 4, 2);
      p.selects("ahead:*", 6, range(1, 4));
      p.selects("ahead:*", 7, range(1, 6));
      Probe.flat().selects("ahead:*", 23, range(1, 22));
      Probe.chain(24).selects("ahead:*", 23);
    });
    holds("in the order of the document, for 2, 4, 6 and 8 in the opposite one.", () -> {
      Probe p = tree();
      inOrder(p, "child:*", 0, 1, 5, 7);
      inOrder(p, "descendant:*", 1, 2, 3, 4);
      inOrder(p, "next:*", 1, 5, 7);
      inOrder(p, "behind:*", 4, 5, 6, 7);
      inOrder(p, "parent:*", 4, 3);
      inOrder(p, "ancestor:*", 4, 3, 1, 0);
      inOrder(p, "before:*", 7, 5, 1);
      inOrder(p, "ahead:*", 7, 6, 5, 4, 3, 2, 1);
      Probe.flat().selects("before:* [ same pos 22 ]", 23, 1);
      Probe.flat().selects("ahead:* [ same pos 1 ]", 23, 22);
      Probe.chain(24).selects("ancestor:* [ same pos 23 ]", 23, 0);
    });
  }

  private static void inOrder(Probe p, String step, int from, int... nodes) {
    for (int k = 0; k < nodes.length; k++) p.selects(step + " [ same pos " + (k + 1) + " ]", from, nodes[k]);
    p.selects(step + " [ less " + nodes.length + " pos ]", from);
    p.selects(step + " [ same pos last ]", from, nodes[nodes.length - 1]);
  }

  private static void conditions() {
    holds("Each condition in turn leaves those of the list for which its NUMBER is not 0,", () -> {
      Probe p = tree();
      p.selects("child:* [ 0 ]", 0);
      p.selects("child:* [ 1 ]", 0, 1, 5, 7);
      p.selects("child:* [ 2 ]", 0, 1, 5, 7);
      p.selects("child:* [ -1 ]", 0, 1, 5, 7);
      p.selects("child:* [ -2147483648 ]", 0, 1, 5, 7);
      p.selects("child:* [ sub own 2 ]", 0, 1, 7);
      p.selects("child:* [ 0 ] [ 1 ]", 0);
      p.selects("child:* [ 1 ] [ 0 ] [ 1 ]", 0);
      p.selects("child:* [ less own 9 ] [ less 1 own ]", 0, 5);
      p.selects("child:5 [ 1 ] [ last ]", 0);
    });
    holds("with the POSITIONS 1, 2, .. in the list as it is then, and its SIZE.", () -> {
      Probe p = tree();
      p.selects("child:* [ less 1 pos ] [ same pos 1 ]", 0, 5);
      p.selects("child:* [ same pos 2 ] [ same pos 2 ]", 0);
      p.selects("child:* [ less 1 pos ] [ same last 2 ]", 0, 5, 7);
      p.selects("child:* [ less 1 pos ] [ same pos last ]", 0, 7);
      p.selects("descendant:* [ less 2 pos ] [ less 2 pos ] [ same pos last ]", 0, 7);
      p.selects("descendant:* [ less 2 pos ] [ less 2 pos ] [ same last 3 ] [ same pos 1 ]", 0, 5);
      p.selects("ancestor:* [ less 1 pos ] [ same pos 1 ]", 4, 1);
      p.selects("ahead:* [ less pos 6 ] [ same pos last ]", 7, 2);
      // the test comes ahead of the positions
      p.selects("child:3 [ same pos 1 ]", 0, 7);
      p.selects("child:3 [ same last 1 ]", 0, 7);
      // each node that the path has come to begins a list of its own
      p.selects("child:* child:* [ same pos 1 ]", 0, 2, 6);
      p.selects("child:* child:* [ same last 1 ]", 0, 6);
    });
    holds("The nodes that a PATH SELECTS from a node: the first STEP's list; then all that are in the next STEP's "
        + "list from some of them; and so on.", () -> {
      Probe p = tree();
      p.selects("child:*", 0, 1, 5, 7);
      p.selects("child:* child:*", 0, 2, 3, 6);
      p.selects("child:* child:* child:*", 0, 4);
      p.selects("child:* child:* child:* child:*", 0);
      p.selects("child:* child:* child:* child:* ancestor:*", 0);
      p.selects("child:5 parent:*", 0);
      p.selects("child:* parent:*", 0, 0);
      p.selects("child:* next:*", 0, 5, 7);
      p.selects("child:* [ same pos 1 ] next:* [ same pos 1 ]", 0, 5);
      Probe chain = Probe.chain(24);
      chain.selects("child:* ".repeat(23).trim(), 0, 23);
      chain.selects("child:* ".repeat(24).trim(), 0);
    });
  }
}
