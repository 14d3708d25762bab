import java.util.function.IntToLongFunction;

/** The sentences that name no boundary case: what the class is, and what its words mean. */
final class PlainSentences extends TestKit {
  /* Trees of many shapes: alike, not alike, turned around, one below the other. */
  private static final String[][] ROWS = {
      {"a1(b c d)", "a2(c b e9)"}, {"a(b(c(d) e) f)", "a(f b(c(d) g))"}, {"h", "a(b(c) d)"}, {"a(b(c) d)", "h"},
      {"c(a(b))", "a(b)"}, {"a(b)", "c(a(b))"}, {"a(b(c(d) e))", "a(c(b(e) d))"}, {"a(b b b)", "a(b b)"},
      {"a(e(f) b1(c d) g(h) h)", "a(e(b2(d c) f) d9)"}, {chain(24), star(23)}, {star(23), chain(24)}};

  static void all() {
    whatItIs();
    theTrees();
    theMatching();
    theLikeness();
    theScript();
    theOrderOfChildren();
    theWorkingTree();
    theText();
    theErrors();
    theArguments();
    theWaysOfOneNode();
    theSettings();
    theDistance();
    theChecksum();
    notPromised();
  }

  // ---- what it is

  private static void whatItIs() {
    asksForNothing("A differ of syntax trees.");
    sentence(15, "Two trees are matched, first equal subtrees from the top down, then nodes with common descendants from the bottom up");
    // From the bottom up: 0 has a partner by 1, which has one by 2.
    matched(2, 60, "a(b(c(d) e) f)", "a(b(c(d) g) f)", "0-0/2 1-1/2 2-2/1 3-3/1");
    sentence(17, "; from the matching a script of updates, insertions, moves and deletions is made that turns the first tree into the second one.");
    for (int h = 1; h <= 3; h++) {
      for (String[] row : ROWS) turnsIntoTheSecond(two(h, 50, row[0], row[1]), row);
    }
    TreeDiffer d = two(1, 50, "a1(b c d)", "a2(c b e9)");
    for (int kind = UPDATE; kind <= DELETE; kind++) due("steps of the kind " + kind, d.count(kind), 1);
    sentence(23, "Scripts are carried out and taken back step by step.");
    for (String[] row : ROWS) goesOnAndBack(two(1, 50, row[0], row[1]));
    sentence(20, "The class also computes the smallest number of changes without moves");
    d = two(1, 50, "a(b c)", "a(c b)");
    due("steps, one of them a move", d.steps(), 1);
    due("changes without moves", d.distance(), 2);
    sentence(26, ", reads trees from texts and prints them.");
    for (String[] row : ROWS) dueText("the tree read", shown(two("a", row[1]), 1), row[1]);
    asksForNothing("; what later calls answer is free.");
  }

  private static void turnsIntoTheSecond(TreeDiffer d, String[] row) {
    int told = 0;
    for (int kind = UPDATE; kind <= DELETE; kind++) told += d.count(kind);
    due("steps of all four kinds", told, d.steps());
    stepOnToTheEnd(d);
    dueText("the end of the script of " + row[0] + " and " + row[1], shown(d, 2), row[1]);
    dueText("tree 0", shown(d, 0), row[0]);
    dueText("tree 1", shown(d, 1), row[1]);
  }

  private static void goesOnAndBack(TreeDiffer d) {
    int steps = d.steps();
    String[] states = new String[steps + 1];
    states[0] = shown(d, 2);
    for (int i = 1; i <= steps; i++) {
      due("stepOn", d.stepOn(), i);
      states[i] = shown(d, 2);
    }
    for (int i = steps - 1; i >= 0; i--) {
      due("stepBack", d.stepBack(), i);
      dueText("the state " + i, shown(d, 2), states[i]);
    }
  }

  // ---- trees

  private static void theTrees() {
    sentence(26, "Trees. There are two trees, 0 and 1, and the working tree, 2;");
    TreeDiffer d = two("b1(c)", "b2(c)");
    d.stepOn();
    dueText("tree 0", shown(d, 0), "b1(c)");
    dueText("tree 1", shown(d, 1), "b2(c)");
    dueText("tree 2", shown(d, 2), "b2(c)");
    d.stepBack();
    dueText("tree 2 at the beginning", shown(d, 2), "b1(c)");
    asksForNothing("(see below)");
  }

  // ---- matching

  private static void matched(int h, int p, String first, String second, String want) {
    dueText("the pairs of " + first + " and " + second, partners(two(h, p, first, second)), want);
  }

  private static void theMatching() {
    sentence(13, "Matching. A matching consists of pairs of a node of tree 0 and a node of tree 1 with the same label; each node is in at most one pair.");
    for (String[] row : ROWS) arePairs(two(1, 0, row[0], row[1]));
    sentence(13, "Returns the number of pairs of the matching.");
    due("pairs of three of four nodes", two(1, 50, "a1(b c d)", "a2(c b e9)").pairs(), 3);
    sentence(14, "Two nodes are partners if they are a pair.");
    matched(1, 50, "a1(b c d)", "a2(c b e9)", "0-0/2 1-2/1 2-1/1");
    sentence(15, "It is found in three phases:\n1. For each height");
    matched(2, 100, "a1(b1(c(d)) e)", "a2(b2(c(d)) f)", "0-0/3 1-1/2 2-2/1 3-3/1");
    sentence(15, "2. For each node x of tree 0 without a partner");
    matched(2, 75, "a1(b1(c(d)) e)", "a2(b2(c(d)) f)", "0-0/2 1-1/2 2-2/1 3-3/1");
    sentence(15, "3. If both roots have no partners");
    matched(9, 0, "a1(b1(c(d)) e)", "a2(b2(c(d)) f)", "0-0/3");
    sentence(14, "are equal and have no partners, one such pair is taken, and x and y");
    matched(1, 100, "h(b b)", "g(b)", "1-1/1");
  }

  private static void arePairs(TreeDiffer d) {
    int pairs = 0;
    for (int x = 0; x < d.nodes(0); x++) {
      int y = d.partner(0, x);
      if (y == NONE) continue;
      pairs++;
      due("the partner of the partner of " + x, d.partner(1, y), x);
      due("the label of the partner of " + x, d.node(1, y, 0), d.node(0, x, 0));
    }
    due("pairs", d.pairs(), pairs);
    for (int y = 0; y < d.nodes(1); y++) {
      if (d.partner(1, y) != NONE) pairs--;
    }
    due("pairs that only one of the trees tells", pairs, 0);
  }

  private static void theLikeness() {
    sentence(16, "The likeness of x and y is 2 * c divided by the sum of the numbers of their descendants, where c is the number of descendants of x whose partners are descendants of y.");
    TreeDiffer d = two(1, 50, "a(b(c) d(e f))", "a(b(e) d(c g))");
    due("the partner is elsewhere", d.likeness(1, 1), 0);
    due("2 * 1 / (1 + 2)", d.likeness(1, 3), 66);
    due("2 * 1 / (2 + 1)", d.likeness(3, 1), 66);
    due("2 * 2 / (5 + 5)", d.likeness(0, 0), 40);
    due("2 * 1 / (1 + 5)", d.likeness(1, 0), 33);
    due("2 * 2 / (5 + 5) is less than 50 percent", d.phase(0), 3);
  }

  // ---- the script

  private static void scripted(int h, int p, String first, String second, String want) {
    dueText("the script of " + first + " and " + second, script(two(h, p, first, second)), want);
  }

  private static void theScript() {
    sentence(18, "Scripts. Above each root stands a further node");
    scripted(2, 50, "a", "b", "I100 -1 0 b0, D0");
    sentence(18, "In what follows, the partner of a node of tree 1 is this node of the copy, and of each child list some nodes are marked; at first no node is marked.");
    scripted(2, 50, "a", "a(b(c))", "I101 0 0 b0, I102 101 0 c0");
    sentence(18, "For each y:\n- If y has no partner, a node with its label and its value is inserted below the partner of the parent of y, at the place that is found for y; it is the partner of y, and both are marked.");
    scripted(1, 50, "a(b(d) c)", "a(b(d e7) c)", "I103 1 1 e7");
    scripted(1, 50, "a(b(d) c)", "a(b(h99 d g) c)", "I102 1 0 h99, I104 1 2 g0");
    sentence(18, "- Otherwise, let x be its partner. If the values are different, the value of x is updated to that of y.");
    scripted(1, 50, "a(b1(c) d)", "a(d b7(c))", "M1 0 1, U1 7");
    sentence(18, "- Then the children of y are put in order.");
    // In order only when the parent is updated and moved, and before the next y.
    scripted(1, 0, "a(e(f) b1(c d))", "a(e(b2(d c) f))", "U3 2, M3 1 0, M4 3 1");
    scripted(1, 0, "a(b(c d) e1(f))", "a(b(d c) e2(f))", "M2 1 1, U4 2");
    sentence(18, "; otherwise, where v is the last marked child of its parent before y, 1 more than the place of the partner of v");
    scripted(1, 0, "a(h b h c h)", "a(b d c e)", "I102 0 2 d0, I104 0 5 e0, D1, D3, D5");
    sentence(18, "At last, the nodes of the copy that come from tree 0 and have no partners are deleted, in postorder of tree 0 (a node comes after its children); a node that is deleted has no children then.");
    scripted(1, 0, "a(b(c) d(e f))", "a(c g f)", "M2 0 0, I102 0 1 g0, M5 0 2, D1, D4, D3");
    sentence(18, "- `what`: 0 for its kind; 1 for the number of the node;");
    TreeDiffer d = two(1, 0, "a1(b c d)", "a2(c b e9)");
    int[] kinds = {UPDATE, MOVE, INSERT, DELETE};
    int[] numbers = {0, 1, 103, 3};
    for (int i = 0; i < 4; i++) {
      due("step(" + i + ", 0)", d.step(i, 0), kinds[i]);
      due("step(" + i + ", 1)", d.step(i, 1), numbers[i]);
    }
  }

  private static void theOrderOfChildren() {
    sentence(18, "To put the children of y in order, where x is the partner of y, means: let S be the children of y");
    scripted(1, 50, "a(b c)", "a(b c)", "");
    sentence(18, "Of all sequences of nodes of S, in this order, whose partners are in the order of the children of x, a longest one is taken");
    // 2 3 5 and 2 4 5 are the longest ones.
    scripted(1, 50, "a(b c d e f)", "a(f b d c e)", "M5 0 0, M2 0 3");
    sentence(18, "Its nodes and their partners are marked.");
    scripted(1, 50, "a(b c)", "a(g b d c e)", "I101 0 0 g0, I103 0 2 d0, I105 0 4 e0");
    sentence(18, "Then, for each other node of S, in their order, its partner is moved below x to the place that is found for the node, and both are marked.");
    scripted(1, 50, "a(b c d)", "a(d c b)", "M2 0 2, M1 0 2");
    scripted(1, 50, "a(b c d e)", "a(e d c b)", "M3 0 3, M2 0 3, M1 0 3");
    // What was moved is marked: the inserted one comes behind it.
    scripted(1, 50, "a(b c d)", "a(d g b c)", "M3 0 0, I102 0 1 g0");
  }

  // ---- the working tree

  private static void theWorkingTree() {
    sentence(21, "The working tree. It becomes tree 0");
    dueText("the working tree", shown(two("b(c d)", "a"), 2), "b(c d)");
    sentence(23, "stepOn() carries out the next step of the script on it, stepBack() takes the latest one back:");
    TreeDiffer d = two(1, 0, "a1(b c d)", "a2(c b e9)");
    String[] states = {"a1(b c d)", "a2(b c d)", "a2(c b d)", "a2(c b e9 d)", "a2(c b e9)"};
    for (int i = 1; i <= 4; i++) {
      d.stepOn();
      dueText("the working tree after step " + i, shown(d, 2), states[i]);
    }
    for (int i = 3; i >= 0; i--) {
      d.stepBack();
      dueText("the working tree back after step " + i, shown(d, 2), states[i]);
    }
    sentence(22, "Carries out the next step.");
    due("stepOn", d.stepOn(), 1);
    due("the value that step 0 updates", d.workingNode(0, 1), d.step(0, 5));
    due("stepOn", d.stepOn(), 2);
    due("the place to which step 1 moves", d.workingChild(d.step(1, 2), d.step(1, 3)), d.step(1, 1));
    due("stepOn", d.stepOn(), 3);
    due("the place where step 2 inserts", d.workingChild(d.step(2, 2), d.step(2, 3)), d.step(2, 1));
    due("its label", d.workingNode(d.step(2, 1), 0), d.step(2, 4));
    due("its value", d.workingNode(d.step(2, 1), 1), d.step(2, 5));
    due("stepOn", d.stepOn(), 4);
    due("the node that step 3 deletes", d.workingNode(d.step(3, 1), 0), BAD_INDEX);
  }

  // ---- the text

  private static void theText() {
    sentence(6, "The text. The text has at most 100 bytes. A tree is written as a label (a to h), its value if it is not left out (one or two digits");
    TreeDiffer d = new TreeDiffer();
    due("read", put(d, 1, "b(c7 d42)"), 3);
    int[][] want = {{1, 0}, {2, 7}, {3, 42}};
    for (int i = 0; i < 3; i++) {
      due("the label of " + i, d.node(1, i, 0), want[i][0]);
      due("the value of " + i, d.node(1, i, 1), want[i][1]);
    }
    sentence(4, "Returns the fault position of the text; NONE if it has no fault.");
    type(d, "b(c7 d42)");
    due("faultPosition of a tree", d.faultPosition(), NONE);
    type(d, "b(c7,d42)");
    due("faultPosition of a comma", d.faultPosition(), 4);
  }

  // ---- errors

  private static void theErrors() {
    sentence(1, "Errors. Errors are reported by negative constants.");
    int[] errors = {TreeDiffer.BAD_INDEX, TreeDiffer.BAD_VALUE, TreeDiffer.NOT_POSSIBLE, TreeDiffer.FULL, TreeDiffer.NONE};
    for (int error : errors) due("the sign of " + error, Integer.signum(error), -1);
  }

  // ---- the arguments

  /** Of the numbers around the range, and of the greatest ones, just those of the range are taken. */
  private static void takes(String call, IntToLongFunction asked, int first, int last) {
    for (int i = first - 3; i <= last + 3; i++) takesOne(call, asked, i, i >= first && i <= last);
    takesOne(call, asked, LEAST, false);
    takesOne(call, asked, MOST, false);
  }

  private static void takesOne(String call, IntToLongFunction asked, int argument, boolean isTaken) {
    due("whether " + call + " is refused with " + argument, asked.applyAsLong(argument) == BAD_INDEX ? 1 : 0, isTaken ? 0 : 1);
  }

  private static void theArguments() {
    TreeDiffer d = two("a(b(c) d)", "a(d)");
    sentence(6, "- `tree`: 0 or 1");
    takes("read", d::read, 0, 1);
    d = two("a(b(c) d)", "a(d)");
    TreeDiffer trees = d;
    sentence(8, "Returns the number of its nodes; BAD_INDEX.");
    takes("nodes", trees::nodes, 0, 1);
    due("nodes(0)", d.nodes(0), 4);
    due("nodes(1)", d.nodes(1), 2);
    sentence(9, "- `tree`: 0 or 1");
    takes("node, tree", t -> trees.node(t, 0, 0), 0, 1);
    sentence(10, "- `tree`: 0 or 1\n- `node`: a node of it");
    takes("child, tree", t -> trees.child(t, 0, 0), 0, 1);
    takes("child, node of tree 0", n -> trees.child(0, n, 0), 0, 3);
    takes("child, node of tree 1", n -> trees.child(1, n, 0), 0, 1);
    sentence(11, "- `node`: a node of tree 0\n- `other`: a node of tree 1");
    takes("equal, node", n -> trees.equal(n, 0), 0, 3);
    takes("equal, other", n -> trees.equal(0, n), 0, 1);
    sentence(14, "- `tree`: 0 or 1\n- `node`: a node of it");
    takes("partner, tree", t -> trees.partner(t, 0), 0, 1);
    takes("partner, node of tree 0", n -> trees.partner(0, n), 0, 3);
    takes("partner, node of tree 1", n -> trees.partner(1, n), 0, 1);
    sentence(15, "- `node`: a node of tree 0");
    takes("phase", trees::phase, 0, 3);
    sentence(16, "- `node`: a node of tree 0\n- `other`: a node of tree 1");
    takes("likeness, node", n -> trees.likeness(n, 0), 0, 3);
    takes("likeness, other", n -> trees.likeness(0, n), 0, 1);
    sentence(27, "- `index`: the index of a byte that was printed, counted from 0");
    d.print(0);
    takes("printed", trees::printed, 0, 8);
    sentence(29, "- `slot`: 0 or 1");
    d.save(0);
    d.save(1);
    takes("restore", trees::restore, 0, 1);
  }

  private static void theWaysOfOneNode() {
    sentence(9, "Returns this number (the parent of the root is -1); BAD_INDEX; BAD_VALUE.");
    TreeDiffer d = two("a(b3(c d(e)) f)", "h");
    int[] want = {1, 3, 0, 2, 3, 3};
    for (int what = 0; what <= 5; what++) due("node(0, 1, " + what + ")", d.node(0, 1, what), want[what]);
    due("node(0, 1, 6)", d.node(0, 1, 6), BAD_VALUE);
    due("node(0, 6, 6)", d.node(0, 6, 6), BAD_INDEX);
    sentence(10, "- `place`: the place of a child, counted from 0");
    due("the first child", d.child(0, 1, 0), 2);
    due("the second child", d.child(0, 1, 1), 3);
    sentence(10, "Returns the number of the child; BAD_INDEX if there is no such tree or node;");
    due("child(0, 0, 1)", d.child(0, 0, 1), 5);
    due("child(0, 6, 0)", d.child(0, 6, 0), BAD_INDEX);
    sentence(24, "- `place`: the place of a child, counted from 0");
    due("the first child", d.workingChild(1, 0), 2);
    due("the second child", d.workingChild(1, 1), 3);
    sentence(24, "Returns the number of the child; BAD_INDEX if there is no such node;");
    due("workingChild(0, 1)", d.workingChild(0, 1), 5);
    due("workingChild(6, 0)", d.workingChild(6, 0), BAD_INDEX);
  }

  private static void theSettings() {
    sentence(12, "Sets h and p.");
    TreeDiffer d = two("a1(b1(c(d)) e)", "a2(b2(c(d)) f)");
    d.setMatching(3, 50);
    due("pairs with h = 3", d.pairs(), 1);
    d.setMatching(2, 50);
    due("pairs with h = 2", d.pairs(), 4);
    due("phase(0) at 50 percent", d.phase(0), 2);
    d.setMatching(2, 76);
    due("phase(0) at 76 percent", d.phase(0), 3);
  }

  // ---- the distance and the checksum

  private static void theDistance() {
    sentence(20, "Computes the smallest number of changes that make tree 1 of tree 0, where a change is: to give a node");
    TreeDiffer d = two("a(b(c d) e)", "a(c1 d f(e))");
    due("a deletion, another value, an insertion", d.distance(), 3);
    sentence(20, "Returns this number.");
    due("distance once more", d.distance(), 3);
    due("distance of a new object", new TreeDiffer().distance(), 0);
  }

  private static long sum(long... values) {
    long h = 71;
    for (long v : values) h = 31 * h + v;
    return h;
  }

  private static void theChecksum() {
    // Both partners, both phases and the number of steps differ, so that their order tells.
    long want = sum(3, 2, NONE, NONE, 0, 1, 1, 1,
        2, MOVE, 1, -1, 0, NONE, NONE, DELETE, 0, NONE, NONE, NONE, NONE,
        1, 7, 'c', '(', 'a', '(', 'b', ')', ')');
    sentence(30, ": nodes() of both trees; for each node of tree 0 its partner and its phase; steps();");
    due("checksum", two("c(a(b))", "a(b)").checksum(), want);
    sentence(30, "; distance(); the number of bytes of print(2), and these bytes");
    due("checksum", two("c(a(b))", "a(b)").checksum(), want);
    sentence(30, "Returns the checksum.");
    due("the same checksum by the same calls", two("c(a(b))", "a(b)").checksum(), want);
  }

  private static void notPromised() {
    asksForNothing("## Not promised\n\nHow the state is held inside the object is free, as are the speed of each call, the text of toString and the behaviour of equals and hashCode.");
    asksForNothing("Use of one object from several threads at once is not promised to be safe.");
    asksForNothing("Nothing is promised beyond the answers and state changes described above, and nothing about an object after its 512th call.");
  }
}
