/** Boundary cases of the terms from the RULES on: choosing a rule, transforming, LONG and DEEP. */
final class TransformBoundaries {
  private static final int MIN = Probe.MIN, MAX = Probe.MAX;
  private static final int OK = Probe.OK, LONG = Probe.LONG, DEEP = Probe.DEEP, SYNTAX = Probe.SYNTAX;
  /** In the flat document: a step for the root, 11 of its children, and 12 next ones of each: 144. */
  private static final String SPENDS_144 =
      "self:0 each child:* [ less pos 12 ] each next:* [ less pos 13 ] end end";

  private TransformBoundaries() { }

  static void run() {
    Sentences.section("Terms");
    rules();
    handling();
    bodies();
    steps();
    lists();
    bothLimits();
  }

  private static void holds(String sentence, Runnable test) { Sentences.holds(sentence, test); }

  private static void due(String what, long got, long want) { Check.due(what, got, want); }

  private static Probe tree() { return Probe.of(DraftBoundaries.TREE); }

  private static void rules() {
    holds("RULES 0..5: each has a PATH (its PATTERN), a priority and a BODY, or is absent.", () -> {
      Probe p = Probe.of("0=9 1=9 . 2=9 . 3=9 . 4=9 . 5=9 . .");
      due("all absent", p.ruleFor(0), -1);
      for (int r = 0; r < 6; r++) p.gives(r, MAX, "self:" + r + " text:" + 10 * r + (r == 0 ? " apply child:*" : ""));
      for (int r = 0; r < 6; r++) due("ruleFor " + r, p.ruleFor(r), r);
      p.puts(OK, 6, 0, 10, 20, 30, 40, 50);
      for (int r = 1; r < 6; r += 2) p.drop(r);
      for (int r = 0; r < 6; r++) due("ruleFor " + r, p.ruleFor(r), r % 2 == 0 ? r : -1);
      p.puts(OK, 6, 0, 9, 20, 9, 40, 9);
    });
    holds("A rule MATCHES a node if its PATTERN selects it from some ancestor of it or from itself.", () -> {
      Probe p = tree();
      for (String pattern : "parent:* ancestor:* next:* before:* behind:* ahead:*".split(" ")) {
        p.gives(0, 0, pattern);
        for (int node = 0; node < 8; node++) due(pattern + " for " + node, p.ruleFor(node), -1);
      }
      p.gives(0, 0, "self:2");
      due("from itself", p.ruleFor(2), 0);
      due("from nothing", p.ruleFor(1), -1);
      p.gives(0, 0, "child:*");
      due("from its parent", p.ruleFor(4), 0);
      due("the root has none", p.ruleFor(0), -1);
      p.gives(0, 0, "child:* parent:*");
      due("from itself over a child", p.ruleFor(0), 0);
      due("from itself, but no child leads back", p.ruleFor(7), -1);
      p.gives(0, 0, "child:* [ same pos 2 ]");
      due("second of its parent", p.ruleFor(5), 0);
      due("second of its parent", p.ruleFor(3), 0);
      due("first of its parent", p.ruleFor(1), -1);
      p.gives(0, 0, "self:1 child:2 child:0");
      due("from neither the root nor its parent", p.ruleFor(4), 0);
      due("a node on the way", p.ruleFor(3), -1);
      Probe chain = Probe.chain(24);
      chain.gives(0, 0, "self:* [ not count parent:* ] descendant:*");
      due("from the farthest ancestor alone", chain.ruleFor(23), 0);
      due("from a near one", chain.ruleFor(1), 0);
      due("not from itself", chain.ruleFor(0), -1);
    });
    holds("The rule FOR a node is, of those that match, the one with the highest priority,", () -> {
      Probe p = tree();
      p.gives(0, MAX, "self:0");
      p.gives(1, MIN, "self:*");
      due("the greatest over the least", p.ruleFor(0), 0);
      due("the least alone", p.ruleFor(1), 1);
      p.gives(2, MIN + 1, "self:1");
      due("the least but one over the least", p.ruleFor(1), 2);
      p.gives(3, -1, "self:1");
      p.gives(4, 0, "self:1");
      p.gives(3, -1, "self:1");
      due("0 over -1, given later", p.ruleFor(1), 4);
      p.gives(5, MAX, "self:5");
      due("one that does not match", p.ruleFor(1), 4);
    });
    holds("of equal ones that which was given later.", () -> {
      Probe p = tree();
      p.gives(5, 3, "self:*");
      p.gives(0, 3, "self:*");
      due("the later of a lesser number", p.ruleFor(0), 0);
      p.gives(2, 3, "self:*");
      due("the later of a greater number", p.ruleFor(0), 2);
      p.gives(5, 3, "self:*");
      due("the first one given anew", p.ruleFor(0), 5);
      p.draft("self:* pos");
      due("a wrong draft", p.rule(0, 3), SYNTAX);
      due("is not given", p.ruleFor(0), 5);
      p.drop(5);
      due("the latest of those left", p.ruleFor(0), 2);
      p.drop(2);
      p.gives(2, 3, "self:1");
      due("given behind a drop", p.ruleFor(1), 2);
      due("another node", p.ruleFor(0), 0);
      for (int priority : new int[] {MIN, MAX}) {
        p.gives(0, priority, "self:*");
        p.gives(1, priority, "self:*");
        p.gives(0, priority, "self:*");
        due("equal at an end", p.ruleFor(4), 0);
      }
    });
  }

  private static void handling() {
    holds("TRANSFORMING: the list of the root alone is handled:", () -> {
      Probe p = tree();
      p.gives(0, 0, "self:* value own value pos value last");
      p.puts(OK, 1, 10, 1, 1);
      Probe one = Probe.of("3=-4");
      one.puts(OK, 1, -4);
    });
    holds("HANDLING a list: for each node in turn (its POSITION in the list, the SIZE of the list) the body of the "
        + "rule for it is executed;", () -> {
      Probe p = Probe.flat();
      p.gives(0, 0, "self:1 value pos value last");
      int[] due = new int[46];
      for (int k = 0; k < 23; k++) {
        due[2 * k] = k + 1;
        due[2 * k + 1] = 23;
      }
      p.puts(OK, 24, due);
      p.gives(1, 1, "self:1 [ same own 1 ] text:7");
      p.gives(2, 0, "self:0 apply child:* [ less pos 4 ]");
      p.puts(OK, 4, 7, 2, 3, 3, 3);
    });
    holds("if there is none: its value is put out if it has no children; else the list of its children is "
        + "handled.", () -> {
      Probe p = Probe.of("0=1");
      p.puts(OK, 1, 1);
      p.open(0, 2);
      p.puts(OK, 2, 2);
      p.open(0, MIN);
      p.close();
      p.open(0, 0);
      p.puts(OK, 4, MIN, 0);
      tree().puts(OK, 8, 5, 7, 8, 9);
      Probe positions = tree();
      positions.gives(0, 0, "self:2 value pos value last");
      positions.puts(OK, 7, 1, 2, 2, 2, 1, 1, 9);
    });
  }

  private static void bodies() {
    holds("The body is executed from left to right: TEXT n: n is put out.", () -> {
      Probe p = Probe.of("0=1");
      p.gives(0, 0, "self:* text:3 text:-2147483648 text:0 text:2147483647");
      p.puts(OK, 1, 3, MIN, 0, MAX);
    });
    holds("ELEMENT m: 1000000 + m is put out, the body executed, then 2000000 put out.", () -> {
      Probe p = Probe.of("0=1");
      p.gives(0, 0, "self:* element:0 end element:5 text:4 element:1 end end");
      p.puts(OK, 1, 1000000, 2000000, 1000005, 4, 1000001, 2000000, 2000000);
    });
    holds("VALUE: the number is put out.", () -> {
      Probe p = Probe.of("0=-2147483648");
      p.gives(0, 0, "self:* value own value 0 value -5 value sub own 1 value count child:* value first child:*");
      p.puts(OK, 1, MIN, 0, -5, MAX, 0, 0);
    });
    holds("APPLY: the list of the nodes that the path selects, in the order of the document, is handled.", () -> {
      Probe p = tree();
      p.gives(0, 0, "self:* value own value pos value last");
      p.gives(1, 1, "self:0 [ count child:* ] apply child:* before:*");
      p.puts(OK, 3, 1, 1, 2, 2, 2, 2);
      p.gives(1, 1, "self:0 [ count child:* ] apply descendant:* ahead:* [ less pos 3 ]");
      p.puts(OK, 6, 5, 1, 5, 6, 2, 5, 7, 3, 5, 2, 4, 5, 8, 5, 5);
      p.gives(1, 1, "self:0 [ count child:* ] text:1 apply child:5 apply parent:* text:2");
      p.puts(OK, 1, 1, 2);
      p.gives(1, 1, "self:0 [ count child:* ] apply child:3");
      p.gives(2, 1, "self:3 apply before:* text:3");
      p.puts(OK, 4, 1, 1, 2, 2, 2, 2, 3);
      p.drop(2);
      // two children lead to it, and it is handled once
      p.gives(1, 1, "self:0 apply child:1");
      p.gives(0, 0, "self:1 value own");
      p.gives(2, 2, "self:0 [ count child:* ] apply child:1 parent:* child:3");
      p.puts(OK, 2, 9);
    });
    holds("IF: the body, if the number is not 0.", () -> {
      Probe p = Probe.of("0=1");
      p.gives(0, 0, "self:* if 0 text:1 end if 1 text:2 end if -1 text:3 end if -2147483648 text:4 end "
          + "if mul 65536 65536 text:5 end if count child:* text:6 end");
      p.puts(OK, 1, 2, 3, 4);
      p.gives(0, 0, "self:* if 0 if 1 text:1 end element:1 text:2 end each self:* text:3 end end text:4");
      p.puts(OK, 1, 4);
      p.gives(0, 0, "self:* if 1 if 0 text:1 end text:2 end if 0 end if 1 end");
      p.puts(OK, 1, 2);
    });
    holds("EACH: the body for each of the nodes that the path selects, in the order of the document, with its "
        + "POSITION and the SIZE.", () -> {
      Probe p = tree();
      p.gives(0, 0, "self:* each child:* before:* value own value pos value last end");
      p.puts(OK, 3, 1, 1, 2, 2, 2, 2);
      p.gives(0, 0, "self:* text:1 each child:5 text:9 end text:2 each child:* parent:* value own end text:3");
      p.puts(OK, 2, 1, 2, 10, 3);
      p.gives(0, 0, "self:0 [ not count child:* ] each ancestor:* value own value pos end each ahead:* value own end");
      p.puts(OK, 12, 5, 10, 1, 1, 2, 6, 3, 5, 8, 9);
      // an inner list has positions of its own, and behind it the outer ones hold again
      p.gives(0, 0, "self:* each child:1 each child:* value pos value last end value pos value last end "
          + "value pos value last");
      p.puts(OK, 6, 1, 2, 2, 2, 1, 2, 1, 1, 2, 2, 1, 1);
    });
  }

  private static void steps() {
    holds("Handling a node, and each time EACH begins its body for a node, takes one of 150 STEPS:", () -> {
      tree().puts(OK, 8, 5, 7, 8, 9);
      Probe p = Probe.flat();
      p.gives(0, 0, "self:0");
      p.puts(OK, 1);
      p.gives(0, 0, "self:0 text:1 element:1 value pos end if 1 end if 0 end apply behind:* each behind:* end");
      p.puts(OK, 1, 1, 1000001, 1, 2000000);
      p.gives(0, 0, "self:0 each child:* end");
      p.puts(OK, 24);
      p.gives(0, 0, "self:0 each child:* if 0 text:1 end end apply child:* [ less pos 3 ]");
      p.puts(OK, 26, 1, 2);
      p.gives(0, 0, SPENDS_144);
      p.puts(OK, 144);
      p.gives(0, 0, SPENDS_144 + " each child:* [ less pos 7 ] text:8 end");
      p.puts(OK, 150, 8, 8, 8, 8, 8, 8);
      p.gives(0, 0, SPENDS_144 + " apply child:* [ less pos 7 ]");
      p.puts(OK, 150, 1, 2, 3, 4, 5, 6);
    });
    holds("LONG if there is none left.", () -> {
      Probe p = Probe.flat();
      p.gives(0, 0, SPENDS_144 + " apply child:* [ less pos 8 ] text:9");
      p.puts(LONG, 150, 1, 2, 3, 4, 5, 6);
      p.gives(1, 0, "self:1 text:8");
      p.puts(LONG, 150, 8, 8, 8, 8, 8, 8);
      p.gives(0, 0, SPENDS_144 + " each child:* [ less pos 8 ] value pos end text:9");
      p.puts(LONG, 150, 1, 2, 3, 4, 5, 6);
      p.gives(0, 0, SPENDS_144 + " each child:* [ less pos 7 ] end apply child:3 text:9");
      p.puts(OK, 150, 9);
      p.gives(0, 0, SPENDS_144 + " each child:* [ less pos 7 ] end apply child:1 text:9");
      p.puts(LONG, 150);
      // what takes no step goes on when none is left
      p.gives(0, 0, SPENDS_144 + " apply child:* [ less pos 7 ] text:5 apply behind:* each behind:* end");
      p.puts(OK, 150, 8, 8, 8, 8, 8, 8, 5);
    });
  }

  private static void lists() {
    holds("LISTS (handled ones, and those of EACH) may be at work within one another 12 deep (the root's is the "
        + "first):", () -> {
      Probe.chain(12).puts(OK, 12, 11);
      Probe applied = Probe.chain(12);
      applied.gives(0, 0, "self:0 apply child:* text:3");
      applied.puts(OK, 12, 11, 3, 3, 3, 3, 3, 3, 3, 3, 3, 3, 3);
      Probe each = Probe.chain(11);
      each.gives(0, 0, "self:1 each self:* text:4 end each child:* end each self:* text:5 end");
      each.puts(OK, 13, 4, 5);
      eachWithin(5, OK);
      // lists one behind the other are not within one another
      Probe flat = Probe.flat();
      flat.gives(0, 0, "self:0 each child:* each self:* end apply self:* end text:1");
      flat.gives(1, 0, "self:1");
      flat.puts(OK, 1 + 23 * 3, 1);
      // nor do elements and conditions count
      Probe one = Probe.of("0=1");
      one.gives(0, 0, "self:*" + " if 1".repeat(9) + " text:2" + " end".repeat(9));
      one.puts(OK, 1, 2);
      one.gives(0, 0, "self:*" + " element:1".repeat(14) + " end".repeat(14));
      due("fourteen elements", one.transform(), OK);
    });
    holds("DEEP for one more (before its first node, also if it is empty).", () -> {
      Probe.chain(13).puts(DEEP, 12);
      Probe applied = Probe.chain(13);
      applied.gives(0, 0, "self:0 apply child:* text:3");
      applied.puts(DEEP, 12);
      eachWithin(6, DEEP);
      Probe last = Probe.chain(12);
      last.gives(0, 0, "self:1 text:1 each self:* text:4 end text:2");
      last.puts(DEEP, 12, 1);
      last.gives(0, 0, "self:1 text:1 each child:* text:4 end text:2");
      last.puts(DEEP, 12, 1);
      last.gives(0, 0, "self:1 text:1 apply self:* text:2");
      last.puts(DEEP, 12, 1);
      last.gives(0, 0, "self:1 text:1 apply child:* text:2");
      last.puts(DEEP, 12, 1);
      last.gives(0, 0, "self:1 text:1 if 0 apply child:* end text:2");
      last.puts(OK, 12, 1, 2);
      Probe fewer = Probe.chain(11);
      fewer.gives(0, 0, "self:1 each child:* text:4 end apply child:* text:2");
      fewer.puts(OK, 11, 2);
      Probe.chain(24).puts(DEEP, 12);
    });
  }

  /** The root's list, five EACHs, the child's list, and as many EACHs more as are given: 7 and those. */
  private static void eachWithin(int more, int outcome) {
    Probe p = Probe.chain(2);
    p.gives(0, 0, "self:0" + " each self:*".repeat(5) + " apply child:*" + " end".repeat(5));
    p.gives(1, 0, "self:1" + " each self:*".repeat(more) + " text:6" + " end".repeat(more));
    if (outcome == OK) p.puts(OK, 7 + more, 6);
    else p.puts(outcome, 12);
  }

  private static void bothLimits() {
    holds("LONG and DEEP end the transformation; what was put out stays.", () -> {
      Probe deep = Probe.of("0=1");
      deep.gives(0, 0, "self:* text:1 element:2 apply self:* text:5 end text:6");
      int[] due = new int[24];
      for (int k = 0; k < 24; k++) due[k] = k % 2 == 0 ? 1 : 1000002;
      deep.puts(DEEP, 12, due);
      deep.gives(0, 0, "self:* text:1 each self:* element:3 apply self:* end end");
      deep.puts(DEEP, 12, 1, 1000003, 1, 1000003, 1, 1000003, 1, 1000003, 1, 1000003, 1, 1000003);
      deep.drop(0);
      deep.puts(OK, 1, 1);
      Probe flat = Probe.flat();
      flat.gives(0, 0, SPENDS_144 + " element:3 apply child:* text:5 end text:6");
      flat.puts(LONG, 150, 1000003, 1, 2, 3, 4, 5, 6);
      flat.gives(0, 0, SPENDS_144 + " element:3 each child:* element:4 end end end");
      flat.puts(LONG, 150, 1000003, 1000004, 2000000, 1000004, 2000000, 1000004, 2000000, 1000004, 2000000,
          1000004, 2000000, 1000004, 2000000);
      flat.gives(0, 0, "self:0 text:4");
      flat.puts(OK, 1, 4);
      // with no step left a thirteenth list is DEEP, since it is so before its first node
      spent(8, "apply self:*", DEEP);
      spent(8, "apply child:*", DEEP);
      spent(8, "each self:* end", DEEP);
      spent(8, "", OK);
      // and the twelfth's node is LONG ahead of what its body would begin
      spent(9, "apply child:*", LONG);
    });
  }

  /** A root with a chain of 11 below it and 12 more children: 131 steps, those given, and 11 for the chain. */
  private static void spent(int more, String lastBody, int outcome) {
    StringBuilder document = new StringBuilder("2=0");
    for (int k = 1; k <= 11; k++) document.append(k == 11 ? " 3=0" : " 0=0");
    document.append(" .".repeat(11)).append(" 1=0 .".repeat(12));
    Probe p = Probe.of(document.toString());
    p.gives(0, 0, "self:2 each child:1 [ less pos 11 ] each parent:* child:1 end end each child:1 [ less pos "
        + (more + 1) + " ] end apply child:0");
    p.gives(1, 0, ("self:3 " + lastBody).trim());
    p.puts(outcome, 150);
  }
}
