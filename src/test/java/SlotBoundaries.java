/** The boundary cases of the slots and of the checksum: promises 28 to 30. */
final class SlotBoundaries extends TestKit {
  static void all() {
    promise28Slots();
    promise28InPlace();
    promise28Returns();
    promise29Empty();
    promise29Kept();
    promise29All();
    promise29EachNode();
    promise29Returns();
    promise30NewObject();
    promise30EachValue();
    promise30PrintedStays();
    promise30ChangesNothing();
  }

  private static void promise28Slots() {
    sentence(28, "- `slot`: 0 or 1");
    TreeDiffer d = two("b(c)", "d");
    for (int slot : new int[] {-1, 2, LEAST, MOST}) due("save(" + slot + ")", d.save(slot), BAD_INDEX);
    due("restore(0)", d.restore(0), NOT_POSSIBLE);
    due("restore(1)", d.restore(1), NOT_POSSIBLE);
    due("save(0)", d.save(0), 2);
    put(d, 0, "e(f g)");
    due("save(1)", d.save(1), 3);
    due("restore(0)", d.restore(0), 2);
    dueText("tree 0", shown(d, 0), "b(c)");
    due("restore(1)", d.restore(1), 3);
    dueText("tree 0", shown(d, 0), "e(f g)");
  }

  private static void promise28InPlace() {
    sentence(28, "Saves trees 0 and 1, h and p, in place of what the slot keeps.");
    TreeDiffer d = two(9, 100, star(23), chain(24));
    d.save(0);
    put(d, 0, "b1");
    put(d, 1, "c2(d)");
    d.setMatching(1, 0);
    due("save(0) once more", d.save(0), 1);
    put(d, 0, "e");
    put(d, 1, "f");
    d.setMatching(5, 55);
    due("restore(0)", d.restore(0), 1);
    dueText("tree 0", shown(d, 0), "b1");
    dueText("tree 1", shown(d, 1), "c2(d)");
    due("h and p", d.setMatching(2, 50), 1000);
  }

  private static void promise28Returns() {
    sentence(28, "Returns the number of nodes of tree 0; BAD_INDEX.");
    due("save(0) of a new object", new TreeDiffer().save(0), 1);
    TreeDiffer d = two(star(23), "b");
    due("save(1) of 24 nodes", d.save(1), 24);
    d.stepOn();
    due("save(1) after a step", d.save(1), 24);
    due("the steps carried out stay", d.start(), 1);
    d.exchange();
    due("save(1) of one node", d.save(1), 1);
  }

  private static void promise29Empty() {
    sentence(29, "NOT_POSSIBLE if nothing has been saved in the slot");
    TreeDiffer d = two("b(c)", "d");
    due("restore(0)", d.restore(0), NOT_POSSIBLE);
    due("restore(1)", d.restore(1), NOT_POSSIBLE);
    d.save(1);
    due("restore(0), the other one is saved", d.restore(0), NOT_POSSIBLE);
    due("restore(1)", d.restore(1), 2);
    sentence(29, "Returns the number of nodes of tree 0 then; BAD_INDEX; NOT_POSSIBLE if nothing has been saved in the slot.");
    for (int slot : new int[] {-1, 2, LEAST, MOST}) {
      due("restore(" + slot + ")", d.restore(slot), BAD_INDEX);
      due("restore(" + slot + ") of a new object", new TreeDiffer().restore(slot), BAD_INDEX);
    }
  }

  private static void promise29Kept() {
    sentence(29, "The slot keeps them.");
    TreeDiffer d = two(3, 33, "b(c)", "d1");
    d.save(0);
    d.exchange();
    put(d, 1, "e");
    d.setMatching(1, 1);
    for (int i = 0; i < 3; i++) {
      due("restore(0)", d.restore(0), 2);
      dueText("tree 0", shown(d, 0), "b(c)");
      dueText("tree 1", shown(d, 1), "d1");
      due("h and p", d.setMatching(9, 99), 3033);
      d.exchange();
      put(d, 0, "f(g h)");
      stepOnToTheEnd(d);
    }
  }

  private static void promise29All() {
    sentence(29, "Makes trees 0 and 1, h and p as they were saved; the working tree becomes tree 0.");
    TreeDiffer d = two(1, 0, "a1(b c d)", "a2(c b e9)");
    d.stepOn();
    d.stepOn();
    d.save(0);
    long beginning = two(1, 0, "a1(b c d)", "a2(c b e9)").checksum();
    put(d, 0, "h");
    d.setMatching(9, 100);
    type(d, "g(");
    due("restore(0)", d.restore(0), 4);
    due("the steps carried out when it was saved are not kept", d.start(), 0);
    due("checksum", d.checksum(), beginning);
    due("the text stays", d.clearText(), 2);
    due("h and p", d.setMatching(2, 50), 1000);
  }

  private static String eachNode(TreeDiffer d) {
    StringBuilder b = new StringBuilder();
    for (int tree = 0; tree <= 1; tree++) {
      for (int node = 0; node < d.nodes(tree); node++) {
        for (int what = 0; what <= 5; what++) b.append(d.node(tree, node, what)).append(' ');
        for (int place = 0; place <= 3; place++) b.append(d.child(tree, node, place)).append(' ');
      }
    }
    return b.append(script(d)).toString();
  }

  private static void promise29EachNode() {
    sentence(29, "Makes trees 0 and 1, h and p as they were saved");
    TreeDiffer d = two(1, 0, "a1(b c d)", "a2(c(d) b e9)");
    d.save(0);
    // Trees of other shapes, so that nothing in their place stays as it was.
    put(d, 0, "h(h(h(h(h(h)))))");
    put(d, 1, "g(g(g g(g) g) g(g))");
    d.save(1);
    String want = eachNode(two(1, 0, "a1(b c d)", "a2(c(d) b e9)"));
    d.restore(0);
    dueText("each node of what was saved first", eachNode(d), want);
    d.restore(1);
    want = eachNode(two(1, 0, "h(h(h(h(h(h)))))", "g(g(g g(g) g) g(g))"));
    dueText("each node of what was saved second", eachNode(d), want);
  }

  private static void promise29Returns() {
    sentence(29, "Returns the number of nodes of tree 0 then");
    TreeDiffer d = two("b", star(23));
    d.save(0);
    d.exchange();
    d.save(1);
    due("restore(0)", d.restore(0), 1);
    due("restore(1)", d.restore(1), 24);
    due("nodes(1)", d.nodes(1), 1);
  }

  private static long sum(long... values) {
    long h = 71;
    for (long v : values) h = 31 * h + v;
    return h;
  }

  private static void promise30NewObject() {
    sentence(30, "It starts with h = 71");
    due("checksum of a new object", new TreeDiffer().checksum(), sum(1, 1, 0, 3, 0, 0, 1, 'a'));
    due("checksum of two labels", two("a", "b").checksum(), sum(1, 1, NONE, NONE,
        2, INSERT, 100, -1, 0, 1, 0, DELETE, 0, NONE, NONE, NONE, NONE, 1, 1, 'a'));
  }

  /** The checksum by the other calls, as the document lists them. */
  private static long byOtherCalls(TreeDiffer d) {
    long h = sum(d.nodes(0), d.nodes(1));
    for (int x = 0; x < d.nodes(0); x++) {
      h = 31 * h + d.partner(0, x);
      h = 31 * h + d.phase(x);
    }
    int steps = d.steps();
    h = 31 * h + steps;
    for (int s = 0; s < steps; s++) {
      for (int what = 0; what <= 5; what++) h = 31 * h + d.step(s, what);
    }
    h = 31 * h + d.distance();
    String printed = shown(d, 2);
    h = 31 * h + printed.length();
    for (char c : printed.toCharArray()) h = 31 * h + c;
    return h;
  }

  private static void promise30EachValue() {
    sentence(30, "for each of the following values, in this order, h becomes 31 * h + value (as longs, with overflow)");
    String[][] rows = {{"a1(b c d)", "a2(c b e9)"}, {chain(24), chain(24)}, {"h", "g"},
        {star(23), star(23).replace('a', 'c').replace('b', 'd')}, {"c2(a(b))", "a(b)"}};
    for (String[] row : rows) {
      TreeDiffer d = two(row[0], row[1]);
      due("checksum of " + row[0] + " and " + row[1], d.checksum(), byOtherCalls(d));
      d.stepOn();
      due("checksum after a step", d.checksum(), byOtherCalls(d));
    }
    sentence(30, "step() of all steps for 0 to 5");
    TreeDiffer d = two("a", "a(b)");
    due("checksum with one step", d.checksum(), sum(1, 2, 0, 3, 1, INSERT, 101, 0, 0, 1, 0, 1, 1, 'a'));
    d.stepOn();
    due("checksum after it", d.checksum(), sum(1, 2, 0, 3, 1, INSERT, 101, 0, 0, 1, 0, 1, 4, 'a', '(', 'b', ')'));
  }

  private static void promise30PrintedStays() {
    sentence(30, "(as by print(2), but what was printed before stays)");
    TreeDiffer d = two("b2(c)", "d");
    d.checksum();
    due("printed(0) if nothing was printed", d.printed(0), BAD_INDEX);
    d.print(1);
    d.checksum();
    due("printed(0)", d.printed(0), 'd');
    due("printed(1)", d.printed(1), BAD_INDEX);
  }

  private static void promise30ChangesNothing() {
    sentence(30, "Computes a checksum.");
    TreeDiffer d = two("a1(b c d)", "a2(c b e9)");
    d.stepOn();
    long sum = d.checksum();
    due("checksum once more", d.checksum(), sum);
    due("the steps carried out stay", d.start(), 1);
    due("the text stays", d.clearText(), 10);
    due("the slots stay", d.restore(0), NOT_POSSIBLE);
    due("checksum at the beginning is another one", d.checksum() == sum ? 1 : 0, 0);
  }
}
