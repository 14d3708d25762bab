/** The boundary cases of the matching: promises 12 to 16. */
final class MatchingBoundaries extends TestKit {
  static void all() {
    promise12Height();
    promise12Percent();
    promise12Returns();
    promise12BothOrNone();
    promise13Pairs();
    promise13LeastHeight();
    promise13Labels();
    promise14Ranges();
    promise14GreatestHeightFirst();
    promise14Kinship();
    promise14Places();
    promise14LowestNumbers();
    promise14Likeness();
    promise15Ranges();
    promise15Percent();
    promise15CommonDescendants();
    promise15Roots();
    promise16Truncated();
    promise16NoDescendants();
    promise16Ranges();
  }

  private static void promise12Height() {
    sentence(12, "- `height`: the new h, 1 to 9");
    TreeDiffer d = new TreeDiffer();
    for (int h : new int[] {0, 10, -1, LEAST, MOST}) due("setMatching(" + h + ", 50)", d.setMatching(h, 50), BAD_VALUE);
    due("setMatching(1, 50)", d.setMatching(1, 50), 2050);
    due("setMatching(9, 50)", d.setMatching(9, 50), 1050);
    due("setMatching(5, 50)", d.setMatching(5, 50), 9050);
  }

  private static void promise12Percent() {
    sentence(12, "- `percent`: the new p, 0 to 100");
    TreeDiffer d = new TreeDiffer();
    for (int p : new int[] {-1, 101, LEAST, MOST}) due("setMatching(2, " + p + ")", d.setMatching(2, p), BAD_VALUE);
    due("setMatching(2, 0)", d.setMatching(2, 0), 2050);
    due("setMatching(2, 100)", d.setMatching(2, 100), 2000);
    due("setMatching(2, 50)", d.setMatching(2, 50), 2100);
  }

  private static void promise12Returns() {
    sentence(12, "Returns 1000 * the previous h + the previous p; BAD_VALUE.");
    TreeDiffer d = new TreeDiffer();
    due("the first time", d.setMatching(1, 0), 2050);
    due("the least ones before", d.setMatching(9, 100), 1000);
    due("the greatest ones before", d.setMatching(9, 100), 9100);
    due("the same ones before", d.setMatching(1, 1), 9100);
  }

  private static void promise12BothOrNone() {
    sentence(12, "A call that reports an error changes nothing.");
    TreeDiffer d = two(3, 33, "a(b)", "c");
    d.stepOn();
    due("setMatching(4, 101)", d.setMatching(4, 101), BAD_VALUE);
    due("setMatching(0, 44)", d.setMatching(0, 44), BAD_VALUE);
    due("setMatching(10, -1)", d.setMatching(10, -1), BAD_VALUE);
    due("the steps carried out stay", d.start(), 1);
    due("h and p stay", d.setMatching(2, 50), 3033);
  }

  private static void promise13Pairs() {
    sentence(13, "each node is in at most one pair");
    due("pairs of two labels", two("a", "b").pairs(), 0);
    due("pairs of two nodes", two("a1", "a2").pairs(), 1);
    due("pairs of 24 nodes, chains", two(chain(24), chain(24)).pairs(), 24);
    due("pairs of 24 nodes, stars", two(star(23), star(23)).pairs(), 24);
    due("pairs of a chain of 24 and one of 23", two(chain(24), chain(23)).pairs(), 23);
    due("pairs of a star of 23 and one of 3", two(1, 0, star(23), star(3)).pairs(), 4);
    due("pairs of a star of 3 and one of 23", two(1, 0, star(3), star(23)).pairs(), 4);
  }

  private static void promise13LeastHeight() {
    sentence(13, "from the greatest one of a node down to the least height h (from 1 to 9, at first 2)");
    due("height 2 at first", two("h(a(a))", "g(a(a))").pairs(), 2);
    due("height 1 at first", two("h(a)", "g(a)").pairs(), 0);
    for (int h = 1; h <= 9; h++) {
      String first = "h(" + chain(h) + ")";
      String second = "g(" + chain(h) + ")";
      due("pairs of height " + h + " with h = " + h, two(h, 50, first, second).pairs(), h);
      if (h < 9) due("pairs of height " + h + " with h = " + (h + 1), two(h + 1, 50, first, second).pairs(), 0);
    }
    due("pairs of height 24 with h = 9", two(9, 50, chain(24), chain(24)).pairs(), 24);
  }

  private static void promise13Labels() {
    sentence(13, "pairs of a node of tree 0 and a node of tree 1 with the same label");
    due("pairs of another label above", two(1, 0, "a(b(c))", "a(d(c))").pairs(), 2);
    due("pairs of another value above", two(1, 0, "a(b(c))", "a(b1(c))").pairs(), 3);
    due("pairs of another label each", two(1, 0, "a(b)", "c(d)").pairs(), 0);
  }

  private static void promise14Ranges() {
    sentence(14, "Returns its partner in the other tree; BAD_INDEX; NONE if it has none.");
    TreeDiffer d = two(star(23), "a(c)");
    due("partner(0, 0)", d.partner(0, 0), 0);
    due("partner(0, 23), the last one", d.partner(0, 23), NONE);
    due("partner(1, 1), the last one", d.partner(1, 1), NONE);
    for (int node : new int[] {-1, 24, LEAST, MOST}) due("partner(0, " + node + ")", d.partner(0, node), BAD_INDEX);
    for (int node : new int[] {-1, 2, 23}) due("partner(1, " + node + ")", d.partner(1, node), BAD_INDEX);
    for (int tree : new int[] {-1, 2, LEAST, MOST}) due("partner(" + tree + ", 0)", d.partner(tree, 0), BAD_INDEX);
    d = two(chain(24), chain(24));
    due("partner(0, 23) of equal trees", d.partner(0, 23), 23);
    due("partner(1, 23) of equal trees", d.partner(1, 23), 23);
  }

  private static void matched(int h, int p, String first, String second, String want) {
    dueText("the pairs of " + first + " and " + second, partners(two(h, p, first, second)), want);
  }

  private static void promise14GreatestHeightFirst() {
    sentence(14, "For each height, from the greatest one of a node down to the least height h");
    matched(2, 100, "a1(c(b(d)))", "a2(b(d) c(b(d)))", "0-0/3 1-3/1 2-4/1 3-5/1");
    sentence(14, "as long as there are nodes x of tree 0 and y of tree 1 of this height that are equal and have no partners");
    matched(1, 100, "h(b b b)", "g(b b)", "1-1/1 2-2/1");
    matched(1, 100, "h(b b)", "g(b b b)", "1-1/1 2-2/1");
    sentence(14, "x and y, and all their descendants, in their order, become partners");
    matched(2, 100, "h(b(b b(b b)))", "g(c b(b b(b b)))", "1-2/1 2-3/1 3-4/1 4-5/1 5-6/1");
  }

  private static void promise14Kinship() {
    sentence(14, "The kinship of x and y is the greatest number k such that, for each i from 1 to k, the ancestors i steps above x and y exist and have the same label.");
    // Below c below a: 2 against 1, though its number is higher.
    matched(2, 100, "a1(c1(b(d)))", "a2(g(c2(b(d))) c2(b(d)))", "0-0/3 1-5/2 2-6/1 3-7/1");
    // Another label one step above ends it, though the second one has the same label above that.
    matched(2, 100, "h(a(c1(b(d))))", "g(e(b(d)) a(e(b(d))))", "3-2/1 4-3/1");
    // Nothing stands above a root: 1 and 5 are both just below it, but no nearer than 1 and 2.
    matched(2, 100, "a1(b(d))", "a2(a3(b(d) e) b(d))", "0-0/3 1-2/1 2-3/1");
    // The root itself has the kinship 0 with any node.
    matched(2, 100, "b(d)", "a(c(b(d)) b(d))", "0-2/1 1-3/1");
    sentence(14, "It is the pair with the greatest kinship, of several the one with the smallest difference");
    matched(2, 100, "a1(b(d) c1(e b(d)))", "a2(c2(b(d)))", "0-0/3 5-2/1 6-3/1");
    // One step of kinship goes before 19 places.
    matched(2, 100, "a1(b(d))", "a2(g(b(d))" + " e".repeat(18) + " b(d))", "0-0/3 1-22/1 2-23/1");
  }

  private static void promise14Places() {
    sentence(14, "the smallest difference, without its sign, of the places of x and y among the children of their parents (0 for a root)");
    matched(2, 100, "a1(e b(d))", "a2(b(d) b(d))", "0-0/3 2-3/1 3-4/1");
    // Places 2 and 0: as far apart as 2 and 4, and farther than 2 and 3.
    matched(2, 100, "a1(e e b(d))", "a2(b(d) e e b(d) b(d))", "0-0/3 3-5/1 4-6/1");
    matched(2, 100, "a1(e e b(d))", "a2(b(d) e e e b(d))", "0-0/3 3-1/1 4-2/1");
    // The greatest difference goes before none.
    matched(1, 100, "g(" + "e ".repeat(22) + "b)", "h(b)", "23-1/1");
    // A root has the place 0.
    matched(2, 100, "b(d)", "a(e b(d) c(b(d)))", "0-5/1 1-6/1");
    matched(2, 100, "a(e b(d) c(b(d)))", "b(d)", "5-0/1 6-1/1");
  }

  private static void promise14LowestNumbers() {
    sentence(14, "of several the one with the lowest x, of several the one with the lowest y");
    matched(2, 100, "a1(b(d) e b(d))", "a2(e b(d))", "0-0/3 1-2/1 2-3/1");
    matched(2, 100, "a1(e b(d))", "a2(b(d) e b(d))", "0-0/3 2-1/1 3-2/1");
    // All of 2 and 1, 2 and 3, 4 and 3, 4 and 5 are one place apart.
    matched(1, 100, "g(e b e b)", "h(b f b f b)", "2-1/1 4-3/1");
  }

  private static void promise14Likeness() {
    sentence(14, "the one with the greatest likeness, of several the one with the lowest number");
    matched(1, 0, "e(b(c d))", "f(b(c g) b(d g))", "1-1/2 2-2/1 3-5/1");
    matched(1, 0, "e(b(c d))", "f(b(c g g) b(d g))", "1-5/2 2-2/1 3-6/1");
    // 2 / 18 and 2 / 17 are 11 percent both, but the second one is the greater one.
    matched(1, 0, "e(b(c d" + " g".repeat(14) + "))", "f(b(c h) b(d))", "1-4/2 2-2/1 3-5/1");
    sentence(14, "For each node x of tree 0 without a partner that has children, in postorder (a node comes after its children)");
    matched(1, 0, "e(b(b(c) d))", "f(b(c d))", "2-1/2 3-2/1 4-3/1");
    sentence(14, "of all nodes y of tree 1 without a partner, with children and with the label of x");
    matched(1, 0, "e(b(c) b(d))", "f(b(c d) g(d))", "1-1/2 2-2/1 4-3/1");
    matched(1, 0, "e(b(c))", "f(g(c) b)", "2-2/1");
  }

  private static void promise15Ranges() {
    sentence(15, "Returns the phase in which it got its partner, 1 to 3; BAD_INDEX; NONE if it has none.");
    TreeDiffer d = two("a(b(c) d)", "a(b(c) e)");
    due("phase(0)", d.phase(0), 2);
    due("phase(1)", d.phase(1), 1);
    due("phase(2), below it", d.phase(2), 1);
    due("phase(3), the last one", d.phase(3), NONE);
    for (int node : new int[] {-1, 4, 24, LEAST, MOST}) due("phase(" + node + ")", d.phase(node), BAD_INDEX);
    due("phase(23) of 24 nodes", two(star(23), "h").phase(23), NONE);
    due("phase(1), a node of tree 1 only", two("a", "a(b)").phase(1), BAD_INDEX);
  }

  private static void phaseOfB(int p, String first, String second, int want) {
    TreeDiffer d = two(2, p, "h(" + first + ")", "g(" + second + ")");
    due("phase(1) of " + first + " and " + second + " at " + p + " percent", d.phase(1), want);
  }

  private static void promise15Percent() {
    sentence(15, "if the likeness is at least p percent (from 0 to 100, at first 50), x and y become partners");
    due("50 percent at first", two("h(b(c(d) e e))", "g(b(c(d) f f))").phase(1), 2);
    due("44 percent at first", two("h(b(c(d) e e))", "g(b(c(d) f f f))").phase(1), NONE);
    phaseOfB(50, "b(c(d) e e)", "b(c(d) f f)", 2);
    phaseOfB(51, "b(c(d) e e)", "b(c(d) f f)", NONE);
    // 4 / 9 is between 44 and 45 percent.
    phaseOfB(44, "b(c(d) e e)", "b(c(d) f f f)", 2);
    phaseOfB(45, "b(c(d) e e)", "b(c(d) f f f)", NONE);
    // 4 / 6 is between 66 and 67 percent.
    phaseOfB(66, "b(c(d) e)", "b(c(d) f)", 2);
    phaseOfB(67, "b(c(d) e)", "b(c(d) f)", NONE);
    // All descendants in common, and all but one.
    phaseOfB(100, "b1(c(d))", "b2(c(d))", 2);
    phaseOfB(100, "b(c(d) e)", "b(c(d))", NONE);
    phaseOfB(100, "b(c(d))", "b(c(d) e)", NONE);
    phaseOfB(80, "b(c(d))", "b(c(d) e)", 2);
    phaseOfB(81, "b(c(d))", "b(c(d) e)", NONE);
    // The least likeness that is more than none: 4 / 40 of two great trees.
    phaseOfB(0, "b(c(d)" + " e".repeat(18) + ")", "b(c(d)" + " f".repeat(18) + ")", 2);
    phaseOfB(10, "b(c(d)" + " e".repeat(18) + ")", "b(c(d)" + " f".repeat(18) + ")", 2);
    phaseOfB(11, "b(c(d)" + " e".repeat(18) + ")", "b(c(d)" + " f".repeat(18) + ")", NONE);
  }

  private static void promise15CommonDescendants() {
    sentence(15, "such that some descendant of x has a descendant of y as its partner");
    TreeDiffer d = two(1, 0, "h(b(c))", "g(b(d))");
    due("phase(1) without common descendants at 0 percent", d.phase(1), NONE);
    d = two(1, 0, "h(b(c) d)", "g(b(d) c)");
    due("phase(1) with partners elsewhere at 0 percent", d.phase(1), NONE);
    d = two(1, 0, "h(b)", "g(b1)");
    due("phase(1) without descendants at 0 percent", d.phase(1), NONE);
  }

  private static void promise15Roots() {
    sentence(15, "If both roots have no partners, and the same label, they become partners.");
    due("phase(0) of roots without children", two("a1", "a2").phase(0), 3);
    due("phase(0) of two labels", two("a", "b").phase(0), NONE);
    due("phase(0) of equal leaves with h = 1", two(1, 50, "a", "a").phase(0), 1);
    due("phase(0) of equal leaves with h = 2", two("a", "a").phase(0), 3);
    TreeDiffer d = two("b(e b(c))", "b(c)");
    due("phase(0) if the root of tree 1 has a partner", d.phase(0), NONE);
    due("partner(1, 0)", d.partner(1, 0), 2);
    d = two("b(c)", "b(e b(c))");
    due("phase(0) if the root of tree 0 has one", d.phase(0), 1);
    due("partner(1, 0)", d.partner(1, 0), NONE);
  }

  private static void promise16Truncated() {
    sentence(16, "Returns 100 times the likeness of two nodes by the finished matching, truncated (0 if both have no descendants).");
    TreeDiffer d = two("a(b(c(d) e) f)", "a(b(c(d) g) f)");
    due("4 / 6", d.likeness(1, 1), 66);
    due("all in common", d.likeness(2, 2), 100);
    due("6 / 10", d.likeness(0, 0), 60);
    d = two(1, 50, "a(b c d)", "a(b e f)");
    due("2 / 6", d.likeness(0, 0), 33);
    d = two(1, 100, "a(" + "b ".repeat(22) + "c)", "a(" + "b ".repeat(22) + "d)");
    due("44 / 46", d.likeness(0, 0), 95);
    d = two(1, 100, star(23), star(1));
    due("2 / 24", d.likeness(0, 0), 8);
    d = two(chain(24), chain(24));
    due("46 / 46", d.likeness(0, 0), 100);
    due("2 / 24, another node", d.likeness(0, 22), 8);
    d = two(3, 50, "a(b(c d))", "a(b(c d))");
    due("height 3 with h = 3", d.likeness(0, 0), 100);
    d.setMatching(4, 50);
    due("height 3 with h = 4, no pair but the roots", d.likeness(0, 0), 0);
  }

  private static void promise16NoDescendants() {
    sentence(16, "(0 if both have no descendants)");
    TreeDiffer d = two("a", "a");
    due("likeness(0, 0) of equal leaves", d.likeness(0, 0), 0);
    d = two("a(b)", "a(b)");
    due("likeness(1, 1) of partners", d.likeness(1, 1), 0);
    due("likeness(0, 1), one has descendants", d.likeness(0, 1), 0);
    due("likeness(1, 0), the other one has", d.likeness(1, 0), 0);
  }

  private static void promise16Ranges() {
    sentence(16, "Returns this number; BAD_INDEX.");
    TreeDiffer d = two(star(23), "a(b)");
    due("likeness(23, 1)", d.likeness(23, 1), 0);
    for (int node : new int[] {-1, 24, LEAST, MOST}) due("likeness(" + node + ", 0)", d.likeness(node, 0), BAD_INDEX);
    for (int other : new int[] {-1, 2, 23, LEAST, MOST}) due("likeness(0, " + other + ")", d.likeness(0, other), BAD_INDEX);
  }
}
