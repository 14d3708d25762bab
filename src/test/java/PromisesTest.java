/** Each promise of the document by examples that were worked out by hand. */
public final class PromisesTest extends TestKit {
  public static void main(String[] args) {
    newObject();
    append();
    clearText();
    faults();
    faultsOfTooManyNodes();
    read();
    exchange();
    nodes();
    node();
    child();
    equal();
    setMatching();
    pairsAndPartners();
    choiceOfEqualSubtrees();
    choiceByDescendants();
    threshold();
    phase();
    likeness();
    orderOfSteps();
    placesOfSteps();
    movesAcross();
    roots();
    wrongSteps();
    count();
    distance();
    start();
    stepOn();
    stepBack();
    workingChild();
    workingNode();
    print();
    printed();
    save();
    restore();
    checksum();
    errorsChangeNothing();
    end();
  }

  private static void newObject() {
    TreeDiffer d = new TreeDiffer();
    for (int tree = 0; tree < 2; tree++) {
      due(1, "nodes", d.nodes(tree), 1);
      due(1, "label", d.node(tree, 0, 0), 0);
      due(1, "value", d.node(tree, 0, 1), 0);
      due(1, "parent", d.node(tree, 0, 2), -1);
      due(1, "children", d.node(tree, 0, 3), 0);
      due(1, "height", d.node(tree, 0, 4), 1);
      due(1, "descendants", d.node(tree, 0, 5), 0);
      due(1, "restore", d.restore(tree), NOT_POSSIBLE);
    }
    due(1, "printed", d.printed(0), BAD_INDEX);
    due(1, "workingNode", d.workingNode(0, 0), 0);
    due(1, "workingChild", d.workingChild(-1, 0), 0);
    due(1, "pairs", d.pairs(), 1);
    due(1, "phase", d.phase(0), 3);
    due(1, "steps", d.steps(), 0);
    due(1, "start", d.start(), 0);
    due(1, "stepOn", d.stepOn(), NOT_POSSIBLE);
    due(1, "stepBack", d.stepBack(), NOT_POSSIBLE);
    due(1, "faultPosition", d.faultPosition(), 0);
    due(1, "clearText", d.clearText(), 0);
    dueText(1, "print(2)", shown(d, 2), "a");
    due(1, "setMatching", d.setMatching(1, 1), 2050);
  }

  private static void append() {
    TreeDiffer d = new TreeDiffer();
    due(2, "append(-1)", d.append(-1), BAD_VALUE);
    due(2, "append(128)", d.append(128), BAD_VALUE);
    due(2, "append(least)", d.append(LEAST), BAD_VALUE);
    due(2, "append(most)", d.append(MOST), BAD_VALUE);
    due(2, "append(0)", d.append(0), 1);
    due(2, "append(127)", d.append(127), 2);
    for (int i = 3; i <= 100; i++) due(2, "append", d.append('a'), i);
    due(2, "append to a full text", d.append('a'), FULL);
    due(2, "append(128) to a full text", d.append(128), BAD_VALUE);
    due(2, "length", d.clearText(), 100);
    due(2, "append after clearText", d.append('a'), 1);
  }

  private static void clearText() {
    TreeDiffer d = new TreeDiffer();
    type(d, "a(b");
    due(3, "clearText", d.clearText(), 3);
    due(3, "clearText again", d.clearText(), 0);
    due(3, "append", d.append('b'), 1);
    due(3, "read", d.read(0), 1);
    due(3, "label", d.node(0, 0, 0), 1);
  }

  private static void fault(String text, int position, int depth) {
    TreeDiffer d = new TreeDiffer();
    type(d, text);
    due(4, "faultPosition of '" + text + "'", d.faultPosition(), position);
    due(5, "faultDepth of '" + text + "'", d.faultDepth(), depth);
    due(4, "read of '" + text + "'", d.read(0) == NOT_POSSIBLE ? 1 : 0, position == NONE ? 0 : 1);
  }

  private static void faults() {
    fault("", 0, 0);
    fault("a", NONE, NONE);
    fault("h", NONE, NONE);
    fault("i", 0, 0);
    fault("`", 0, 0);
    fault("A", 0, 0);
    fault("1", 0, 0);
    fault("(a)", 0, 0);
    fault(" a", 0, 0);
    fault(")", 0, 0);
    fault("a ", 1, 0);
    fault("a b", 1, 0);
    fault("ab", 1, 0);
    fault("a)", 1, 0);
    fault("a0", NONE, NONE);
    fault("a00", 2, 0);
    fault("a01", 2, 0);
    fault("a9", NONE, NONE);
    fault("a10", NONE, NONE);
    fault("a99", NONE, NONE);
    fault("a100", 3, 0);
    fault("a/", 1, 0);
    fault("a:", 1, 0);
    fault("a(", 2, 1);
    fault("a()", 2, 1);
    fault("a((", 2, 1);
    fault("a(1)", 2, 1);
    fault("a( b)", 2, 1);
    fault("a(b", 3, 1);
    fault("a(bc)", 3, 1);
    fault("a(b,c)", 3, 1);
    fault("a(b)", NONE, NONE);
    fault("a(b ", 4, 1);
    fault("a(b )", 4, 1);
    fault("a(b  c)", 4, 1);
    fault("a(b))", 4, 0);
    fault("a(b)1", 4, 0);
    fault("a(b)(c)", 4, 0);
    fault("a(b) ", 4, 0);
    fault("a(b)c", 4, 0);
    fault("a(b(c)d)", 6, 1);
    fault("a(b(c)(d))", 6, 1);
    fault("a(b(c)2)", 6, 1);
    fault("a(b(c) d(e(f", 12, 3);
    fault("a12(b3(c0) d(e(f45 g)) h)", NONE, NONE);
    fault("a12(b3(c0) d(e(f45 g)) h)x", 25, 0);
    fault("a(b0 c01)", 7, 1);
  }

  private static void faultsOfTooManyNodes() {
    fault(star(23), NONE, NONE);
    fault(star(24), 48, 1);
    fault(chain(24), NONE, NONE);
    fault(chain(25), 48, 24);
    fault(chain(25).substring(0, 48), 48, 24);
    fault(chain(24).substring(0, 47), 47, 23);
    fault(chain(24).substring(0, 47) + " a", 48, 23);
    fault(chain(24).substring(0, 47) + " ", 48, 23);
    StringBuilder full = new StringBuilder("a10(b10");
    while (full.length() < 100) full.append(" b10");
    fault(full.substring(0, 100), 4 + 23 * 4, 1);
  }

  private static void read() {
    TreeDiffer d = new TreeDiffer();
    due(6, "read(2) with a fault", d.read(2), BAD_INDEX);
    due(6, "read(-1) with a fault", d.read(-1), BAD_INDEX);
    due(6, "read(0) with a fault", d.read(0), NOT_POSSIBLE);
    type(d, "c7(d e99(f))");
    due(6, "read(2)", d.read(2), BAD_INDEX);
    due(6, "read(0)", d.read(0), 4);
    due(6, "nodes(1)", d.nodes(1), 1);
    dueText(6, "print(0)", shown(d, 0), "c7(d e99(f))");
    dueText(6, "print(2)", shown(d, 2), "c7(d e99(f))");
    due(6, "read(1)", d.read(1), 4);
    due(6, "pairs", d.pairs(), 4);
    due(6, "the text stays", d.clearText(), 12);
    put(d, 1, "a");
    due(6, "stepOn", d.stepOn(), 1);
    put(d, 1, "a(");
    due(6, "a fault leaves the working tree", d.start(), 1);
    d.stepOn();
    put(d, 1, "a1");
    due(6, "read(1) starts the working tree", d.start(), 0);
    dueText(6, "print(2)", shown(d, 2), "c7(d e99(f))");
    d.stepOn();
    put(d, 0, "a1");
    due(6, "read(0) starts the working tree", d.start(), 0);
    dueText(6, "print(2)", shown(d, 2), "a1");
    due(6, "pairs", d.pairs(), 1);
    due(6, "steps", d.steps(), 0);
    put(d, 0, "a0(b0)");
    due(6, "a value 0", d.node(0, 1, 1), 0);
    due(6, "24 nodes", put(d, 0, star(23)), 24);
    due(6, "height", d.node(0, 0, 4), 2);
    due(6, "24 nodes", put(d, 0, chain(24)), 24);
    due(6, "height", d.node(0, 0, 4), 24);
  }

  private static void exchange() {
    TreeDiffer d = two("a(b(c) d)", "e1");
    d.stepOn();
    due(7, "exchange", d.exchange(), 1);
    due(7, "start", d.start(), 0);
    dueText(7, "print(0)", shown(d, 0), "e1");
    dueText(7, "print(1)", shown(d, 1), "a(b(c) d)");
    dueText(7, "print(2)", shown(d, 2), "e1");
    due(7, "steps", d.steps(), 5);
    due(7, "exchange", d.exchange(), 4);
    dueText(7, "print(0)", shown(d, 0), "a(b(c) d)");
    dueText(7, "print(2)", shown(d, 2), "a(b(c) d)");
  }

  private static void nodes() {
    TreeDiffer d = two("a(b c)", "a(b(c d) e)");
    due(8, "nodes(0)", d.nodes(0), 3);
    due(8, "nodes(1)", d.nodes(1), 5);
    due(8, "nodes(-1)", d.nodes(-1), BAD_INDEX);
    due(8, "nodes(2)", d.nodes(2), BAD_INDEX);
    due(8, "nodes(most)", d.nodes(MOST), BAD_INDEX);
  }

  private static void nodeIs(TreeDiffer d, int tree, int node, int... want) {
    for (int what = 0; what <= 5; what++) {
      due(9, "node(" + tree + ", " + node + ", " + what + ")", d.node(tree, node, what), want[what]);
    }
  }

  private static void node() {
    TreeDiffer d = two("a1(b20(c d3(e) f) g0(h99))", "h5");
    nodeIs(d, 0, 0, 0, 1, -1, 2, 4, 7);
    nodeIs(d, 0, 1, 1, 20, 0, 3, 3, 4);
    nodeIs(d, 0, 2, 2, 0, 1, 0, 1, 0);
    nodeIs(d, 0, 3, 3, 3, 1, 1, 2, 1);
    nodeIs(d, 0, 4, 4, 0, 3, 0, 1, 0);
    nodeIs(d, 0, 5, 5, 0, 1, 0, 1, 0);
    nodeIs(d, 0, 6, 6, 0, 0, 1, 2, 1);
    nodeIs(d, 0, 7, 7, 99, 6, 0, 1, 0);
    nodeIs(d, 1, 0, 7, 5, -1, 0, 1, 0);
    due(9, "node(2, 0, 0)", d.node(2, 0, 0), BAD_INDEX);
    due(9, "node(-1, 0, 0)", d.node(-1, 0, 0), BAD_INDEX);
    due(9, "node(0, 8, 0)", d.node(0, 8, 0), BAD_INDEX);
    due(9, "node(0, -1, 0)", d.node(0, -1, 0), BAD_INDEX);
    due(9, "node(1, 1, 0)", d.node(1, 1, 0), BAD_INDEX);
    due(9, "node(0, 24, 9)", d.node(0, 24, 9), BAD_INDEX);
    due(9, "node(0, most, 9)", d.node(0, MOST, 9), BAD_INDEX);
    due(9, "node(0, least, 9)", d.node(0, LEAST, 9), BAD_INDEX);
    due(9, "node(0, 0, 6)", d.node(0, 0, 6), BAD_VALUE);
    due(9, "node(0, 0, -1)", d.node(0, 0, -1), BAD_VALUE);
  }

  private static void child() {
    TreeDiffer d = two("a(b(c d(e) f) g(h))", "a(b)");
    due(10, "child(0, 0, 0)", d.child(0, 0, 0), 1);
    due(10, "child(0, 0, 1)", d.child(0, 0, 1), 6);
    due(10, "child(0, 0, 2)", d.child(0, 0, 2), NONE);
    due(10, "child(0, 0, -1)", d.child(0, 0, -1), NONE);
    due(10, "child(0, 0, least)", d.child(0, 0, LEAST), NONE);
    due(10, "child(0, 0, most)", d.child(0, 0, MOST), NONE);
    due(10, "child(0, 1, 0)", d.child(0, 1, 0), 2);
    due(10, "child(0, 1, 1)", d.child(0, 1, 1), 3);
    due(10, "child(0, 1, 2)", d.child(0, 1, 2), 5);
    due(10, "child(0, 2, 0)", d.child(0, 2, 0), NONE);
    due(10, "child(0, 6, 0)", d.child(0, 6, 0), 7);
    due(10, "child(1, 0, 0)", d.child(1, 0, 0), 1);
    due(10, "child(1, 2, -1)", d.child(1, 2, -1), BAD_INDEX);
    due(10, "child(0, -1, 0)", d.child(0, -1, 0), BAD_INDEX);
    due(10, "child(2, 0, 0)", d.child(2, 0, 0), BAD_INDEX);
  }

  private static void equal() {
    TreeDiffer d = two("a(b(c1 d) e(c1) c1)", "a(b(c1 d) e(c2) c1 b(c1(d)) f)");
    due(11, "equal(1, 1)", d.equal(1, 1), 1);
    due(11, "equal(0, 0)", d.equal(0, 0), 0);
    due(11, "equal(4, 4), another value below", d.equal(4, 4), 0);
    due(11, "equal(6, 6)", d.equal(6, 6), 1);
    due(11, "equal(2, 6)", d.equal(2, 6), 1);
    due(11, "equal(1, 7), another shape", d.equal(1, 7), 0);
    due(11, "equal(3, 9)", d.equal(3, 9), 1);
    due(11, "equal(3, 10), another label", d.equal(3, 10), 0);
    due(11, "equal(7, 0)", d.equal(7, 0), BAD_INDEX);
    due(11, "equal(0, 11)", d.equal(0, 11), BAD_INDEX);
    due(11, "equal(-1, -1)", d.equal(-1, -1), BAD_INDEX);
    due(11, "equal(0, -1)", d.equal(0, -1), BAD_INDEX);
  }

  private static void setMatching() {
    TreeDiffer d = two("a(b c)", "a(b d)");
    due(12, "setMatching(0, 50)", d.setMatching(0, 50), BAD_VALUE);
    due(12, "setMatching(10, 50)", d.setMatching(10, 50), BAD_VALUE);
    due(12, "setMatching(2, -1)", d.setMatching(2, -1), BAD_VALUE);
    due(12, "setMatching(2, 101)", d.setMatching(2, 101), BAD_VALUE);
    due(12, "pairs", d.pairs(), 1);
    d.stepOn();
    due(12, "setMatching(9, 0)", d.setMatching(9, 0), 2050);
    due(12, "the working tree starts", d.start(), 0);
    due(12, "setMatching(1, 100)", d.setMatching(1, 100), 9000);
    due(12, "pairs with h = 1", d.pairs(), 2);
    due(12, "setMatching(1, 100) again", d.setMatching(1, 100), 1100);
    d.stepOn();
    d.setMatching(1, 100);
    due(12, "the same settings start, too", d.start(), 0);
    dueText(12, "print(2)", shown(d, 2), "a(b c)");
  }

  private static void pairsAndPartners() {
    TreeDiffer d = two("a(b(c d) e)", "a(e b(c d))");
    due(13, "pairs", d.pairs(), 4);
    dueText(14, "partners", partners(d), "0-0/2 1-2/1 2-3/1 3-4/1");
    due(14, "partner(0, 4)", d.partner(0, 4), NONE);
    due(14, "partner(1, 1)", d.partner(1, 1), NONE);
    due(14, "partner(1, 4)", d.partner(1, 4), 3);
    due(14, "partner(0, 5)", d.partner(0, 5), BAD_INDEX);
    due(14, "partner(0, -1)", d.partner(0, -1), BAD_INDEX);
    due(14, "partner(2, 0)", d.partner(2, 0), BAD_INDEX);
    due(14, "partner(-1, 0)", d.partner(-1, 0), BAD_INDEX);
    d.setMatching(1, 50);
    due(13, "pairs with h = 1", d.pairs(), 5);
    dueText(14, "partners", partners(d), "0-0/2 1-2/1 2-3/1 3-4/1 4-1/1");
    d.setMatching(3, 50);
    due(13, "pairs with h = 3", d.pairs(), 1);
    dueText(14, "partners", partners(d), "0-0/3");
    due(13, "pairs of two labels", two("a", "b").pairs(), 0);
    due(13, "pairs of equal trees", two("a(b c)", "a(b c)").pairs(), 3);
  }

  private static void matched(int h, String first, String second, String want) {
    TreeDiffer d = two(first, second);
    d.setMatching(h, 100);
    dueText(14, "partners of " + first + " and " + second, partners(d), want);
  }

  private static void choiceOfEqualSubtrees() {
    // The greatest height first: the whole c(b(d)), though b(d) has a nearer one.
    matched(2, "a1(c(b(d)))", "a2(b(d) c(b(d)))", "0-0/3 1-3/1 2-4/1 3-5/1");
    // The greatest kinship: below c below a.
    matched(2, "a(c(b(d)))", "a(b(d) c1(b(d)))", "0-0/3 1-3/2 2-4/1 3-5/1");
    // A kinship ends with the first two labels that differ: 0 for both, so the lowest y.
    matched(2, "a(c(b(d)))", "a(e(b(d)) a(b(d)))", "0-0/3 2-2/1 3-3/1");
    // The kinship goes before the places, and also before the lowest x.
    matched(2, "a(b(d) c1(e b(d)))", "a(c2(b(d)))", "0-0/3 5-2/1 6-3/1");
    // Then the smallest difference of the places.
    matched(2, "a1(e b(d))", "a2(b(d) b(d))", "0-0/3 2-3/1 3-4/1");
    // Then the lowest y.
    matched(2, "a1(e b(d))", "a2(b(d) e b(d))", "0-0/3 2-1/1 3-2/1");
    // Then the lowest x.
    matched(2, "a1(b(d) e b(d))", "a2(e b(d))", "0-0/3 1-2/1 2-3/1");
    // A root has place 0.
    matched(2, "b(d)", "a(e b(d) c b(d))", "0-2/1 1-3/1");
    // h = 1 takes leaves, too; h = 3 no trees of height 2.
    matched(1, "a(b c)", "a(c d)", "0-0/3 2-1/1");
    matched(2, "a(b c)", "a(b c)", "0-0/1 1-1/1 2-2/1");
    matched(3, "a(b c)", "a(b c)", "0-0/3");
    matched(9, chain(24), chain(24), whole(24));
  }

  private static String whole(int nodes) {
    StringBuilder b = new StringBuilder();
    for (int i = 0; i < nodes; i++) b.append(i).append('-').append(i).append("/1 ");
    return b.toString().trim();
  }

  private static void choiceByDescendants() {
    // b of tree 0 is likest to the second b: 2 * 2 / 4 against 2 * 0, and to none if it shares nothing.
    TreeDiffer d = two("e(b(c(d)))", "f(b(g) b(c(d) g))");
    d.setMatching(2, 0);
    dueText(14, "partners", partners(d), "1-3/2 2-4/1 3-5/1");
    // Both b of tree 1 share one node of two: the lowest number.
    d = two("e(b(c d))", "f(b(c g) b(d g))");
    d.setMatching(1, 0);
    dueText(14, "partners", partners(d), "1-1/2 2-2/1 3-5/1");
    // The greatest likeness, though its number is higher: 2 * 1 / 5 against 2 * 1 / 4.
    d = two("e(b(c d))", "f(b(c g g) b(d g))");
    d.setMatching(1, 0);
    dueText(14, "partners", partners(d), "1-5/2 2-2/1 3-6/1");
    // Another label is never taken.
    d = two("e(b(c d))", "f(g(c d))");
    d.setMatching(1, 0);
    dueText(14, "partners", partners(d), "2-2/1 3-3/1");
    // In postorder the lower b comes first and takes the only b of tree 1.
    d = two("e(b(b(c) d))", "f(b(c d))");
    d.setMatching(1, 0);
    dueText(14, "partners", partners(d), "2-1/2 3-2/1 4-3/1");
    // A pair of phase 2 counts for the nodes above it.
    d = two("a(b(c(d) e) f)", "a(b(c(d) g) f)");
    dueText(14, "partners", partners(d), "0-0/2 1-1/2 2-2/1 3-3/1");
  }

  private static void threshold() {
    TreeDiffer d = two("a(b(c(d) e) f)", "a(b(c(d) g) f)");
    // b: 2 * 2 / 6; a: 2 * 3 / 10 if b has a partner, 2 * 2 / 10 if not.
    int[][] rows = {{60, 2, 2}, {61, 3, 2}, {66, 3, 2}, {67, 3, NONE}, {40, 2, 2}, {0, 2, 2}, {100, 3, NONE}};
    for (int[] row : rows) {
      d.setMatching(2, row[0]);
      due(15, "phase(0) at " + row[0] + " percent", d.phase(0), row[1]);
      due(15, "phase(1) at " + row[0] + " percent", d.phase(1), row[2]);
    }
    d = two("a(b(c))", "a(b(d))");
    d.setMatching(1, 0);
    due(15, "phase(1) without common descendants at 0 percent", d.phase(1), NONE);
    due(15, "phase(0)", d.phase(0), 3);
  }

  private static void phase() {
    TreeDiffer d = two("a(b(c) d)", "a(b(c) e)");
    due(15, "phase(0)", d.phase(0), 2);
    due(15, "phase(1)", d.phase(1), 1);
    due(15, "phase(2)", d.phase(2), 1);
    due(15, "phase(3)", d.phase(3), NONE);
    due(15, "phase(4)", d.phase(4), BAD_INDEX);
    due(15, "phase(-1)", d.phase(-1), BAD_INDEX);
    due(15, "phase(0) of two roots of a label", two("a1", "a2").phase(0), 3);
    due(15, "phase(0) of two labels", two("a", "b").phase(0), NONE);
    // The root of tree 1 has a partner below that of tree 0: no third phase.
    d = two("b(e b(c))", "b(c)");
    due(15, "phase(0) if the other root has a partner", d.phase(0), NONE);
    due(15, "phase(2)", d.phase(2), 1);
  }

  private static void likeness() {
    TreeDiffer d = two("a(b(c(d) e) f)", "a(b(c(d) g) f)");
    due(16, "likeness(1, 1)", d.likeness(1, 1), 66);
    due(16, "likeness(0, 0)", d.likeness(0, 0), 60);
    due(16, "likeness(0, 1)", d.likeness(0, 1), 50);
    due(16, "likeness(1, 0)", d.likeness(1, 0), 50);
    due(16, "likeness(2, 2)", d.likeness(2, 2), 100);
    due(16, "likeness(3, 3), both without descendants", d.likeness(3, 3), 0);
    due(16, "likeness(0, 3)", d.likeness(0, 3), 0);
    due(16, "likeness(6, 0)", d.likeness(6, 0), BAD_INDEX);
    due(16, "likeness(0, 6)", d.likeness(0, 6), BAD_INDEX);
    due(16, "likeness(-1, 0)", d.likeness(-1, 0), BAD_INDEX);
    due(16, "likeness(0, -1)", d.likeness(0, -1), BAD_INDEX);
    d.setMatching(9, 50);
    due(16, "likeness(0, 0) of the finished matching", d.likeness(0, 0), 0);
  }

  private static void scripted(int h, int p, String first, String second, String want) {
    TreeDiffer d = two(first, second);
    d.setMatching(h, p);
    dueText(18, "script of " + first + " and " + second, script(d), want);
    due(17, "steps", d.steps(), want.isEmpty() ? 0 : want.split(", ").length);
    for (int i = d.steps(); i > 0; i--) d.stepOn();
    dueText(22, "the end of the script of " + first + " and " + second, shown(d, 2), second);
    for (int i = d.steps(); i > 0; i--) d.stepBack();
    dueText(23, "the start of the script of " + first + " and " + second, shown(d, 2), first);
  }

  private static void orderOfSteps() {
    scripted(2, 50, "a(b c)", "a(b c)", "");
    scripted(2, 50, "a1", "a2", "U0 2");
    scripted(2, 50, "a7", "a", "U0 0");
    scripted(2, 50, "a(b(c))", "a5(b(c) d6)", "U0 5, I103 0 1 d6");
    // Level by level: 103 comes before 102, which is deeper.
    scripted(2, 50, "a", "a(b(c) d)", "I101 0 0 b0, I103 0 1 d0, I102 101 0 c0");
    // The deletions come last, children before their parents.
    scripted(2, 50, "a(b(c d) e)", "a1", "U0 1, D2, D3, D1, D4");
    // An update comes before a move of the same node.
    scripted(2, 50, "a(b1(c(d) e) f)", "a(f b2(c(d) e))", "I101 0 0 f0, U1 2, I105 1 1 e0, D4, D5");
    // An update, a move, then the order of the children.
    scripted(1, 0, "a(e(f) b1(c d))", "a(e(b2(d c) f))", "U3 2, M3 1 0, M4 3 1");
  }

  private static void placesOfSteps() {
    // The longest sequence stays; the other one is moved to the front.
    scripted(1, 50, "a(b c d)", "a(d b c)", "M3 0 0");
    // Two longest ones: the first one as numbers, here 1, stays.
    scripted(1, 50, "a(b c)", "a(c b)", "M1 0 1");
    scripted(1, 50, "a(b c d)", "a(d c b)", "M2 0 2, M1 0 2");
    // 1 3 and 1 4 and 2 3 and 2 4 are as long: 1 3.
    scripted(1, 50, "a(b c d e)", "a(c b e d)", "M1 0 1, M3 0 3");
    // Within the same parent the node is taken out before its place is found.
    scripted(1, 50, "a(b c d e)", "a(c d b e)", "M1 0 2");
    scripted(1, 50, "a(b c d e)", "a(c d e b)", "M1 0 3");
    // The place is behind the last marked child, before nodes that are deleted at last.
    scripted(1, 0, "a(e b f)", "a(b c)", "I102 0 2 c0, D1, D3");
    scripted(1, 0, "a(e b f)", "a(c b)", "I101 0 0 c0, D1, D3");
    // A child that comes from elsewhere later is not marked yet when places are found.
    scripted(1, 0, "a(b(c d) e)", "a(d f e b(c))", "M1 0 1, M3 0 0, I102 0 1 f0");
  }

  private static void movesAcross() {
    scripted(1, 0, "a(b(c d) e(f))", "a(b(c) e(d f))", "M3 4 0");
    scripted(1, 0, "a(b(c d) e(f))", "a(b(c) e(f d))", "M3 4 1");
    scripted(2, 50, "a(b(c d) b(c d))", "a(f(b(c d)) b(c d))", "I101 0 0 f0, M1 101 0");
    // A node is moved below an inserted one before its old parent is deleted.
    scripted(1, 0, "a(g(b))", "a(f(b))", "I101 0 0 f0, M2 101 0, D1");
    // The upper one goes below the lower one.
    scripted(1, 0, "a(b(c(d) e))", "a(c(b(e) d))", "M2 0 0, M1 2 0");
  }

  private static void roots() {
    scripted(2, 50, "a", "b(a)", "I100 -1 0 b0, I101 100 0 a0, D0");
    // The root of tree 0 goes below a new root.
    scripted(2, 50, "a(b)", "c(a(b))", "I100 -1 0 c0, M0 100 0");
    // A node below becomes the root, before the old one, which is deleted.
    scripted(2, 50, "c(a(b))", "a(b)", "M1 -1 0, D0");
    TreeDiffer d = two("c(a(b))", "a(b)");
    d.stepOn();
    dueText(26, "print(2) with two nodes below -1", shown(d, 2), "a(b) c");
  }

  private static void wrongSteps() {
    TreeDiffer d = two("a(b)", "c(a(b))");
    due(18, "step(-1, 0)", d.step(-1, 0), BAD_INDEX);
    due(18, "step(2, 0)", d.step(2, 0), BAD_INDEX);
    due(18, "step(2, 6)", d.step(2, 6), BAD_INDEX);
    due(18, "step(most, 0)", d.step(MOST, 0), BAD_INDEX);
    due(18, "step(least, 0)", d.step(LEAST, 0), BAD_INDEX);
    due(18, "step(0, -1)", d.step(0, -1), BAD_VALUE);
    due(18, "step(0, 6)", d.step(0, 6), BAD_VALUE);
    due(18, "step(0, 2)", d.step(0, 2), -1);
    due(18, "step(0, 0)", d.step(0, 0), TreeDiffer.INSERT);
    due(18, "step(1, 0)", d.step(1, 0), TreeDiffer.MOVE);
    due(18, "step(0, 0) without steps", new TreeDiffer().step(0, 0), BAD_INDEX);
  }

  private static void count() {
    TreeDiffer d = two("a(e(f) b1(c d) g(h) h)", "a(e(b2(d c) f) d9)");
    d.setMatching(1, 0);
    dueText(18, "script", script(d), "I106 0 1 d9, U3 2, M3 1 0, M4 3 1, D7, D6, D8");
    due(19, "count(UPDATE)", d.count(UPDATE), 1);
    due(19, "count(INSERT)", d.count(INSERT), 1);
    due(19, "count(MOVE)", d.count(MOVE), 2);
    due(19, "count(DELETE)", d.count(DELETE), 3);
    due(19, "count(-1)", d.count(-1), BAD_VALUE);
    due(19, "count(4)", d.count(4), BAD_VALUE);
  }

  private static void apart(String first, String second, int want) {
    TreeDiffer d = two(first, second);
    due(20, "distance of " + first + " and " + second, d.distance(), want);
    d.exchange();
    due(20, "distance of " + second + " and " + first, d.distance(), want);
  }

  private static void distance() {
    apart("a", "a", 0);
    apart("a", "b", 1);
    apart("a", "a1", 1);
    apart("a", "b1", 1);
    apart("a(b)", "b", 1);
    apart("a(b)", "a", 1);
    apart("a(b)", "c", 2);
    apart("a(b(c d))", "a(c d)", 1);
    apart("a(b c d)", "a(e(b c) d)", 1);
    apart("a(b c d)", "a(b e(c d))", 1);
    apart("a(b c d)", "a(e(b) c d)", 1);
    apart("a(b c)", "a(c b)", 2);
    apart("a(b1 c)", "a(b2 c)", 1);
    apart("f(d(a c(b)) e)", "f(c(d(a b)) e)", 2);
    apart("a(b(c) d)", "a(b(c d))", 2);
    apart("a(b(c(d)))", "a(b c d)", 4);
    apart(star(23), chain(24), 45);
    apart(chain(24), "h", 24);
    apart(chain(24), "a", 23);
    TreeDiffer d = two("a(b c)", "a(c b)");
    d.stepOn();
    due(20, "distance after a step", d.distance(), 2);
    due(20, "the steps are kept", d.start(), 1);
  }

  private static void start() {
    TreeDiffer d = two("a", "a1(b c)");
    due(21, "start", d.start(), 0);
    d.stepOn();
    d.stepOn();
    due(21, "start after 2 steps", d.start(), 2);
    dueText(21, "print(2)", shown(d, 2), "a");
    due(21, "start", d.start(), 0);
    due(21, "stepOn", d.stepOn(), 1);
    dueText(21, "print(2)", shown(d, 2), "a1");
  }

  private static void stepOn() {
    TreeDiffer d = two("c2(a(b))", "a1(b)");
    d.setMatching(1, 0);
    String[] want = {"c2(a1(b))", "a1(b) c2", "a1(b)"};
    dueText(18, "script", script(d), "U1 1, M1 -1 0, D0");
    for (int i = 0; i < 3; i++) {
      due(22, "stepOn", d.stepOn(), i + 1);
      dueText(22, "print(2)", shown(d, 2), want[i]);
    }
    due(22, "stepOn after the last step", d.stepOn(), NOT_POSSIBLE);
    dueText(22, "print(2)", shown(d, 2), "a1(b)");
    dueText(22, "tree 0 stays", shown(d, 0), "c2(a(b))");
    due(22, "start", d.start(), 3);
    due(22, "stepOn without steps", new TreeDiffer().stepOn(), NOT_POSSIBLE);
  }

  private static void stepBack() {
    TreeDiffer d = two("a(e(f) b1(c d) g(h) h)", "a(e(b2(d c) f) d9)");
    d.setMatching(1, 0);
    due(23, "stepBack before the first step", d.stepBack(), NOT_POSSIBLE);
    int steps = d.steps();
    String[] states = new String[steps + 1];
    states[0] = shown(d, 2);
    for (int i = 1; i <= steps; i++) {
      d.stepOn();
      states[i] = shown(d, 2);
    }
    for (int i = steps - 1; i >= 0; i--) {
      due(23, "stepBack", d.stepBack(), i);
      dueText(23, "print(2)", shown(d, 2), states[i]);
    }
    due(23, "stepBack", d.stepBack(), NOT_POSSIBLE);
    dueText(23, "print(2) at last", shown(d, 2), "a(e(f) b1(c d) g(h) h)");
    for (int i = 1; i <= steps; i++) {
      d.stepOn();
      dueText(23, "print(2) once more", shown(d, 2), states[i]);
    }
    d = two("a", "b");
    d.stepOn();
    d.stepOn();
    due(23, "a deleted node is away", d.workingNode(0, 0), BAD_INDEX);
    d.stepBack();
    due(23, "a deleted node is back at its place", d.workingChild(-1, 1), 0);
    due(23, "its label", d.workingNode(0, 0), 0);
    d.stepBack();
    due(23, "an inserted node is away", d.workingNode(100, 0), BAD_INDEX);
    due(23, "the other one is the first", d.workingChild(-1, 0), 0);
  }

  private static void workingChild() {
    TreeDiffer d = two("a(b c)", "d(e)");
    due(24, "workingChild(-1, 0)", d.workingChild(-1, 0), 0);
    due(24, "workingChild(-1, 1)", d.workingChild(-1, 1), NONE);
    due(24, "workingChild(-1, -1)", d.workingChild(-1, -1), NONE);
    due(24, "workingChild(0, 1)", d.workingChild(0, 1), 2);
    due(24, "workingChild(0, 2)", d.workingChild(0, 2), NONE);
    due(24, "workingChild(0, least)", d.workingChild(0, LEAST), NONE);
    due(24, "workingChild(1, 0)", d.workingChild(1, 0), NONE);
    due(24, "workingChild(3, 0)", d.workingChild(3, 0), BAD_INDEX);
    due(24, "workingChild(100, 0)", d.workingChild(100, 0), BAD_INDEX);
    due(24, "workingChild(-2, 0)", d.workingChild(-2, 0), BAD_INDEX);
    for (int number : new int[] {24, 47, 48, 49, 99, 124, 148, LEAST, MOST}) {
      due(24, "workingChild(" + number + ", 0)", d.workingChild(number, 0), BAD_INDEX);
      due(25, "workingNode(" + number + ", 0)", d.workingNode(number, 0), BAD_INDEX);
    }
    d.stepOn();
    due(24, "workingChild(-1, 0) after an insertion", d.workingChild(-1, 0), 100);
    due(24, "workingChild(-1, 1) after an insertion", d.workingChild(-1, 1), 0);
    due(24, "workingChild(100, 0)", d.workingChild(100, 0), NONE);
    d.stepOn();
    due(24, "workingChild(100, 0)", d.workingChild(100, 0), 101);
    d.stepOn();
    due(24, "workingChild(0, 0) after a deletion", d.workingChild(0, 0), 2);
    due(24, "workingChild(1, -1) of a deleted node", d.workingChild(1, -1), BAD_INDEX);
  }

  private static void workingNode() {
    TreeDiffer d = two("b7(c8)", "d9(e)");
    due(25, "label", d.workingNode(0, 0), 1);
    due(25, "value", d.workingNode(0, 1), 7);
    due(25, "parent", d.workingNode(0, 2), -1);
    due(25, "parent", d.workingNode(1, 2), 0);
    due(25, "workingNode(0, 3)", d.workingNode(0, 3), BAD_VALUE);
    due(25, "workingNode(0, -1)", d.workingNode(0, -1), BAD_VALUE);
    due(25, "workingNode(2, 3)", d.workingNode(2, 3), BAD_INDEX);
    due(25, "workingNode(-1, 0)", d.workingNode(-1, 0), BAD_INDEX);
    due(25, "workingNode(100, 0)", d.workingNode(100, 0), BAD_INDEX);
    d.stepOn();
    d.stepOn();
    due(25, "label of an inserted node", d.workingNode(100, 0), 3);
    due(25, "value of an inserted node", d.workingNode(100, 1), 9);
    due(25, "parent of an inserted node", d.workingNode(100, 2), -1);
    due(25, "parent of an inserted node", d.workingNode(101, 2), 100);
    d.stepOn();
    due(25, "a deleted node", d.workingNode(1, 0), BAD_INDEX);
    d = two("a1", "a2");
    d.stepOn();
    due(25, "an updated value", d.workingNode(0, 1), 2);
    due(25, "the value in tree 0", d.node(0, 0, 1), 1);
    d.stepBack();
    due(25, "the old value", d.workingNode(0, 1), 1);
  }

  private static void print() {
    String all = "a(b10 c0(d9(e)) f99(g h(a)) b)";
    TreeDiffer d = two(all, "h1");
    dueText(26, "print(0)", shown(d, 0), "a(b10 c(d9(e)) f99(g h(a)) b)");
    dueText(26, "print(1)", shown(d, 1), "h1");
    due(26, "print(-1)", d.print(-1), BAD_INDEX);
    due(26, "print(3)", d.print(3), BAD_INDEX);
    due(26, "an error leaves what was printed", d.printed(1), '1');
    due(26, "in place of what was printed before", d.printed(2), BAD_INDEX);
    // The longest that can be printed: all nodes of both trees.
    StringBuilder full = new StringBuilder("a(b11(b11");
    for (int i = 0; i < 21; i++) full.append(" b11");
    d = two(full + "))", full.toString().replace('b', 'c').replace('a', 'd') + "))");
    due(26, "nodes", d.nodes(0) + d.nodes(1), 48);
    due(26, "steps", d.steps(), 48);
    for (int i = 0; i < 24; i++) d.stepOn();
    due(26, "print(2) with 48 nodes", d.print(2), 2 * d.print(0) + 1);
  }

  private static void printed() {
    TreeDiffer d = two("b2(c)", "a");
    due(27, "printed(0) before", d.printed(0), BAD_INDEX);
    d.print(0);
    due(27, "printed(-1)", d.printed(-1), BAD_INDEX);
    due(27, "printed(0)", d.printed(0), 'b');
    due(27, "printed(1)", d.printed(1), '2');
    due(27, "printed(2)", d.printed(2), '(');
    due(27, "printed(3)", d.printed(3), 'c');
    due(27, "printed(4)", d.printed(4), ')');
    due(27, "printed(5)", d.printed(5), BAD_INDEX);
    due(27, "printed(most)", d.printed(MOST), BAD_INDEX);
    due(27, "printed(least)", d.printed(LEAST), BAD_INDEX);
    d.exchange();
    due(27, "printed(0) after exchange", d.printed(0), 'b');
  }

  private static void save() {
    TreeDiffer d = two("a(b c)", "d");
    due(28, "save(-1)", d.save(-1), BAD_INDEX);
    due(28, "save(2)", d.save(2), BAD_INDEX);
    d.stepOn();
    due(28, "save(1)", d.save(1), 3);
    due(28, "save leaves the working tree", d.start(), 1);
    due(28, "restore(0)", d.restore(0), NOT_POSSIBLE);
    put(d, 0, "e");
    due(28, "save(1) in place of the old", d.save(1), 1);
    put(d, 0, "f(g)");
    due(28, "restore(1)", d.restore(1), 1);
    dueText(28, "print(0)", shown(d, 0), "e");
  }

  private static void restore() {
    TreeDiffer d = two("a(b c)", "d1");
    d.setMatching(3, 33);
    due(29, "restore(2)", d.restore(2), BAD_INDEX);
    due(29, "restore(-1)", d.restore(-1), BAD_INDEX);
    due(29, "restore(0)", d.restore(0), NOT_POSSIBLE);
    d.save(0);
    put(d, 0, "e(f)");
    put(d, 1, "g(h(a))");
    d.setMatching(4, 44);
    d.save(1);
    d.stepOn();
    d.print(2);
    int length = d.print(2);
    due(29, "restore(0)", d.restore(0), 3);
    due(29, "what was printed stays", d.printed(length - 1) == BAD_INDEX ? 0 : 1, 1);
    due(29, "the working tree starts", d.start(), 0);
    dueText(29, "print(0)", shown(d, 0), "a(b c)");
    dueText(29, "print(1)", shown(d, 1), "d1");
    dueText(29, "print(2)", shown(d, 2), "a(b c)");
    due(29, "steps", d.steps(), 4);
    due(29, "h and p", d.setMatching(5, 55), 3033);
    due(29, "restore(1)", d.restore(1), 2);
    dueText(29, "print(1)", shown(d, 1), "g(h(a))");
    due(29, "h and p", d.setMatching(5, 55), 4044);
    put(d, 0, "b");
    due(29, "restore(1) again", d.restore(1), 2);
    dueText(29, "print(0)", shown(d, 0), "e(f)");
    d.exchange();
    due(29, "restore(1) after exchange", d.restore(1), 2);
    due(29, "the text stays", d.clearText(), 1);
  }

  private static long sum(long... values) {
    long h = 71;
    for (long v : values) h = 31 * h + v;
    return h;
  }

  private static void checksum() {
    due(30, "checksum of a new object", new TreeDiffer().checksum(), sum(1, 1, 0, 3, 0, 0, 1, 'a'));
    TreeDiffer d = two("a1(b(c) d)", "a(b(c) e2)");
    long start = sum(4, 4, 0, 2, 1, 1, 2, 1, NONE, NONE,
        3, UPDATE, 0, NONE, NONE, NONE, 0,
        INSERT, 103, 0, 1, 4, 2,
        DELETE, 3, NONE, NONE, NONE, NONE,
        2, 10, 'a', '1', '(', 'b', '(', 'c', ')', ' ', 'd', ')');
    due(30, "script length", d.steps(), 3);
    due(30, "checksum", d.checksum(), start);
    d.print(1);
    d.stepOn();
    due(30, "checksum after a step", d.checksum() == start ? 1 : 0, 0);
    due(30, "what was printed stays", d.printed(6) * 1000 + d.printed(7), ' ' * 1000 + 'e');
    due(30, "the steps are kept", d.start(), 1);
    due(30, "checksum", d.checksum(), start);
  }

  private static void errorsChangeNothing() {
    TreeDiffer d = two("a1(b(c) d(e f))", "a(d(f e) b(c) e2)");
    d.setMatching(1, 20);
    d.save(1);
    d.stepOn();
    d.stepOn();
    d.print(1);
    type(d, "a(b");
    long before = d.checksum();
    int bad = 0;
    bad += d.append(-1) + d.append(128);
    bad += d.read(-1) + d.read(2) + d.read(0) + d.read(1);
    bad += d.nodes(2) + d.node(0, 9, 0) + d.node(0, 0, 9) + d.child(0, 9, 0) + d.equal(9, 0);
    bad += d.setMatching(0, 30) + d.setMatching(3, 101) + d.partner(0, 9) + d.phase(9) + d.likeness(0, 9);
    bad += d.step(99, 0) + d.step(0, 9) + d.count(4) + d.workingChild(99, 0) + d.workingNode(99, 0);
    bad += d.workingNode(0, 9) + d.print(3) + d.printed(99) + d.save(2) + d.restore(2) + d.restore(0);
    due(30, "the sum of errors", bad, 15 * BAD_INDEX + 8 * BAD_VALUE + 3 * NOT_POSSIBLE + BAD_INDEX);
    due(30, "checksum after errors", d.checksum(), before);
    due(27, "printed after errors", d.printed(2), 'd');
    due(4, "faultPosition after errors", d.faultPosition(), 3);
    due(3, "clearText after errors", d.clearText(), 3);
    due(12, "h and p after errors", d.setMatching(1, 20), 1020);
    due(29, "the slot after errors", d.restore(1), 6);
    for (int i = d.steps(); i > 0; i--) d.stepOn();
    int all = d.steps();
    due(22, "stepOn", d.stepOn(), NOT_POSSIBLE);
    due(22, "start", d.start(), all);
    due(23, "stepBack", d.stepBack(), NOT_POSSIBLE);
    due(23, "start", d.start(), 0);
  }
}
