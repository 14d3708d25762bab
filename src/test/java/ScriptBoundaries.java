/** The boundary cases of the script and of the distance: promises 17 to 20. */
final class ScriptBoundaries extends TestKit {
  static void all() {
    promise17Steps();
    promise18Ranges();
    promise18Kinds();
    promise18Numbers();
    promise18Values();
    promise18Roots();
    promise18Levels();
    promise18Places();
    promise18SameParent();
    promise18LongestSequence();
    promise18Parents();
    promise18Deletions();
    promise19Count();
    promise20Changes();
    promise20Deletions();
    promise20Insertions();
    promise20Limits();
  }

  private static void scripted(int h, int p, String first, String second, String want) {
    TreeDiffer d = two(h, p, first, second);
    dueText("the script of " + first + " and " + second, script(d), want);
    due("its length", d.steps(), want.isEmpty() ? 0 : want.split(", ").length);
    stepOnToTheEnd(d);
    dueText("its end", shown(d, 2), second);
  }

  private static void promise17Steps() {
    sentence(17, "Returns the number of steps of the script.");
    due("steps of a new object", new TreeDiffer().steps(), 0);
    due("steps of equal trees of 24 nodes", two(chain(24), chain(24)).steps(), 0);
    due("one step", two("a1", "a2").steps(), 1);
    TreeDiffer d = two(star(23), star(23).replace('a', 'c').replace('b', 'd'));
    due("24 insertions and 24 deletions", d.steps(), 48);
    stepOnToTheEnd(d);
    due("steps after all of them", d.steps(), 48);
    scripted(1, 0, "a(b1(c) d1(e))", "a(d2(e) b2(c))", "M1 0 1, U3 2, U1 2");
  }

  private static void promise18Ranges() {
    sentence(18, "- `step`: the number of a step, counted from 0");
    TreeDiffer d = two(star(23), star(23).replace('a', 'c').replace('b', 'd'));
    due("step(0, 0)", d.step(0, 0), INSERT);
    due("step(47, 0), the last one", d.step(47, 0), DELETE);
    for (int step : new int[] {-1, 48, 95, 96, LEAST, MOST}) due("step(" + step + ", 0)", d.step(step, 0), BAD_INDEX);
    due("step(0, 0) without steps", new TreeDiffer().step(0, 0), BAD_INDEX);
    put(d, 1, star(23));
    due("step(0, 0) when the steps are away", d.step(0, 0), BAD_INDEX);
    sentence(18, "Returns this number; BAD_INDEX; BAD_VALUE.");
    d = two("a", "b");
    for (int what : new int[] {-1, 6, LEAST, MOST}) {
      due("step(0, " + what + ")", d.step(0, what), BAD_VALUE);
      due("step(2, " + what + ")", d.step(2, what), BAD_INDEX);
      due("step(-1, " + what + ")", d.step(-1, what), BAD_INDEX);
    }
  }

  private static void told(TreeDiffer d, int step, int... want) {
    for (int what = 0; what <= 5; what++) {
      due("step(" + step + ", " + what + ")", d.step(step, what), want[what]);
    }
  }

  private static void promise18Kinds() {
    sentence(18, "2 for the node below which it is inserted or moved, 3 for the place there (both NONE for other kinds); 4 for the label of an inserted node (NONE for other kinds); 5 for the value of an inserted node, or the new value of an updated one (NONE for other kinds)");
    TreeDiffer d = two(1, 0, "a1(b c d)", "a2(c b e9)");
    told(d, 0, UPDATE, 0, NONE, NONE, NONE, 2);
    told(d, 1, MOVE, 1, 0, 1, NONE, NONE);
    told(d, 2, INSERT, 103, 0, 2, 4, 9);
    told(d, 3, DELETE, 3, NONE, NONE, NONE, NONE);
    due("steps", d.steps(), 4);
    // Label 0, value 0 and place 0 are told, too.
    d = two("b(c)", "a");
    told(d, 0, INSERT, 100, -1, 0, 0, 0);
    d = two("a99", "a");
    told(d, 0, UPDATE, 0, NONE, NONE, NONE, 0);
  }

  private static void promise18Numbers() {
    sentence(18, "a node that is inserted gets the number 100 + that of its partner in tree 1");
    TreeDiffer d = two("h", chain(24));
    for (int i = 0; i < 24; i++) due("step(" + i + ", 1)", d.step(i, 1), 100 + i);
    due("the last node is below the one before", d.step(23, 2), 122);
    sentence(18, "The script is made on a copy of tree 0, whose nodes have the numbers that they have there");
    d = two(chain(24), "h");
    for (int i = 0; i < 24; i++) due("step(" + (i + 1) + ", 1)", d.step(i + 1, 1), 23 - i);
    dueText("tree 0 is not changed", shown(d, 0), chain(24));
  }

  private static void promise18Values() {
    sentence(18, "If the values are different, the value of x is updated to that of y.");
    scripted(2, 50, "a", "a99", "U0 99");
    scripted(2, 50, "a99", "a", "U0 0");
    scripted(2, 50, "a99", "a99", "");
    scripted(2, 50, "a1", "b1", "I100 -1 0 b1, D0");
    scripted(1, 0, "a(e(f) b1(c d))", "a(e(b2(d c) f))", "U3 2, M3 1 0, M4 3 1");
  }

  private static void promise18Roots() {
    sentence(18, "Above each root stands a further node, which is no node of the tree; the three of them have the number -1, and those of trees 0 and 1 are partners.");
    scripted(2, 50, "a", "b", "I100 -1 0 b0, D0");
    scripted(2, 50, "a(b)", "c(a(b))", "I100 -1 0 c0, M0 100 0");
    scripted(2, 50, "c(a(b))", "a(b)", "M1 -1 0, D0");
    scripted(2, 50, "c(d a(b))", "a(b)", "M2 -1 0, D1, D0");
    scripted(1, 100, "a(b(c))", "b(a(c))", "I100 -1 0 b0, I101 100 0 a0, M2 101 0, D1, D0");
    sentence(18, "First, the children of the node -1 of tree 1 are put in order.");
    scripted(2, 50, "a", "a", "");
    scripted(2, 50, "a1", "a2", "U0 2");
  }

  private static void promise18Levels() {
    sentence(18, "Then the nodes y of tree 1 are gone through, level by level from the root on, in each level in the order of their numbers.");
    scripted(2, 50, "a", "a(b(c) d)", "I101 0 0 b0, I103 0 1 d0, I102 101 0 c0");
    scripted(2, 50, "a", "a(b(c(d)) e(f))", "I101 0 0 b0, I104 0 1 e0, I102 101 0 c0, I105 104 0 f0, I103 102 0 d0");
    TreeDiffer d = two("h", chain(24));
    due("the deepest level comes last", d.step(23, 1), 123);
  }

  private static void promise18Places() {
    sentence(18, "The place that is found for a node y of tree 1 is 0 if no child of its parent before y is marked");
    scripted(1, 0, "a(e b f)", "a(c b)", "I101 0 0 c0, D1, D3");
    scripted(1, 0, "a(b c)", "a(d b c)", "I101 0 0 d0");
    // Nothing stands before d, whatever is marked behind it.
    scripted(1, 0, "a(b(c d) e)", "a(d f e b(c))", "M1 0 1, M3 0 0, I102 0 1 f0");
    sentence(18, "where v is the last marked child of its parent before y, 1 more than the place of the partner of v among the children of its parent in the copy");
    scripted(1, 0, "a(e b f)", "a(b c)", "I102 0 2 c0, D1, D3");
    scripted(1, 0, "a(b c)", "a(b d c)", "I102 0 1 d0");
    scripted(1, 0, "a(b c)", "a(b c d)", "I103 0 2 d0");
    // The greatest place: behind 22 nodes that are deleted later, and behind 21 inserted ones.
    TreeDiffer d = two(1, 0, "a(" + "b ".repeat(22) + "d)", "a(d" + " c".repeat(22) + ")");
    due("the place of the first insertion", d.step(0, 3), 23);
    due("the place of the last insertion", d.step(21, 3), 44);
    due("the step behind it", d.step(22, 0), DELETE);
  }

  private static void promise18SameParent() {
    sentence(18, "If a node is moved within the same parent, it is taken out first, and the place is found after that.");
    scripted(1, 50, "a(b c d e)", "a(c d b e)", "M1 0 2");
    scripted(1, 50, "a(b c d e)", "a(c d e b)", "M1 0 3");
    scripted(1, 50, "a(b c d)", "a(d b c)", "M3 0 0");
    scripted(1, 50, "a(b c d)", "a(b d c)", "M2 0 2");
    StringBuilder others = new StringBuilder("b1");
    for (int i = 2; i <= 22; i++) others.append(" b").append(i);
    scripted(1, 50, "a(" + others + " c)", "a(c " + others + ")", "M23 0 0");
    scripted(1, 50, "a(c " + others + ")", "a(" + others + " c)", "M1 0 22");
  }

  private static void promise18LongestSequence() {
    sentence(18, "a longest one is taken; of several the one that is lexicographically first as a sequence of numbers");
    scripted(1, 50, "a(b c)", "a(c b)", "M1 0 1");
    scripted(1, 50, "a(b c d)", "a(d c b)", "M2 0 2, M1 0 2");
    // 1 3 stays, not 1 4, 2 3 or 2 4.
    scripted(1, 50, "a(b c d e)", "a(c b e d)", "M1 0 1, M3 0 3");
    // 2 3 of tree 1 stays, for 1 is behind both: the longest one goes before the first one.
    scripted(1, 50, "a(b c d)", "a(d b c)", "M3 0 0");
    scripted(1, 50, "a(b c d)", "a(b c d)", "");
    // The order of three children above says nothing of the order of those below.
    scripted(1, 50, "a(b(e f g) c d)", "a(b(g e f) c d)", "M4 1 0");
    sentence(18, "let S be the children of y whose partners are children of x, in their order");
    // d is no child of the root of tree 0, so that only e and b are put in order.
    scripted(1, 0, "a(b(c d) e)", "a(d e b(c))", "M1 0 1, M3 0 0");
    // No child of y has a partner.
    scripted(2, 50, "a(b c)", "a(d e)", "I101 0 0 d0, I102 0 1 e0, D1, D2");
    sentence(18, "at first no node is marked");
    TreeDiffer d = two(1, 0, "a(b c d)", "a(b c d)");
    due("steps of equal trees", d.steps(), 0);
    put(d, 1, "a(e d c)");
    dueText("the next script of the same object", script(d), script(two(1, 0, "a(b c d)", "a(e d c)")));
  }

  private static void promise18Parents() {
    sentence(18, "If the parent of x is not the partner of the parent of y, x is moved below the partner of the parent of y, to the place that is found for y, and both are marked.");
    scripted(1, 0, "a(b(c d) e(f))", "a(b(c) e(d f))", "M3 4 0");
    scripted(1, 0, "a(b(c d) e(f))", "a(b(c) e(f d))", "M3 4 1");
    scripted(1, 0, "a(g(b))", "a(f(b))", "I101 0 0 f0, M2 101 0, D1");
    scripted(1, 0, "a(b(c(d) e))", "a(c(b(e) d))", "M2 0 0, M1 2 0");
    sentence(18, "it is the partner of y, and both are marked");
    scripted(2, 50, "a", "a(b c d)", "I101 0 0 b0, I102 0 1 c0, I103 0 2 d0");
    scripted(2, 50, "a(h)", "a(b c)", "I101 0 0 b0, I102 0 1 c0, D1");
  }

  private static void promise18Deletions() {
    sentence(18, "the nodes of the copy that come from tree 0 and have no partners are deleted, in postorder of tree 0 (a node comes after its children)");
    scripted(2, 50, "a(b(c d) e)", "a1", "U0 1, D2, D3, D1, D4");
    scripted(2, 50, "a(b(c(d)) e(f))", "a1", "U0 1, D3, D2, D1, D5, D4");
    sentence(18, "a node that is deleted has no children then");
    TreeDiffer d = two(1, 0, "a(b(c d(e)) f(g(h)))", "a(c e h)");
    for (int i = 0; i < d.steps(); i++) {
      if (d.step(i, 0) == DELETE) due("a child of the node", d.workingChild(d.step(i, 1), 0), NONE);
      d.stepOn();
    }
    dueText("its end", shown(d, 2), "a(c e h)");
    due("deletions", d.count(DELETE), 4);
  }

  private static void promise19Count() {
    sentence(19, "- `kind`: UPDATE to DELETE");
    TreeDiffer d = two(1, 0, "a(e(f) b1(c d) g(h) h)", "a(e(b2(d c) f) d9)");
    for (int kind : new int[] {-1, 4, LEAST, MOST}) due("count(" + kind + ")", d.count(kind), BAD_VALUE);
    due("count(UPDATE)", d.count(UPDATE), 1);
    due("count(INSERT)", d.count(INSERT), 1);
    due("count(MOVE)", d.count(MOVE), 2);
    due("count(DELETE)", d.count(DELETE), 3);
    d.stepOn();
    due("count(INSERT) after the insertion", d.count(INSERT), 1);
    sentence(19, "Returns the number of steps of this kind; BAD_VALUE.");
    for (int kind = UPDATE; kind <= DELETE; kind++) due("count of a new object", new TreeDiffer().count(kind), 0);
    due("24 insertions", two("h", star(23)).count(INSERT), 24);
    due("24 deletions", two(star(23), "h").count(DELETE), 24);
  }

  private static void apart(String first, String second, int want) {
    TreeDiffer d = two(first, second);
    due("distance of " + first + " and " + second, d.distance(), want);
    d.exchange();
    due("distance of " + second + " and " + first, d.distance(), want);
  }

  private static void promise20Changes() {
    sentence(20, "to give a node another label, another value, or both");
    apart("a", "b", 1);
    apart("a", "a99", 1);
    apart("a", "b1", 1);
    apart("a(b)", "c1(d2)", 2);
    apart("a(b)", "b(a)", 2);
  }

  private static void promise20Deletions() {
    sentence(20, "to delete a node, whose children take its place in their order");
    apart("a(b)", "a", 1);
    apart("a(b(c d))", "a(c d)", 1);
    apart("a(e b(c d) f)", "a(e c d f)", 1);
    apart("a(e b(c d) f)", "a(e d c f)", 3);
    apart("a(b(c))", "a", 2);
    sentence(20, "(The node -1 counts as a parent here.)");
    apart("a(b)", "b", 1);
    apart("a", "b(a)", 1);
    apart("c(a(b d))", "a(b d)", 1);
  }

  private static void promise20Insertions() {
    sentence(20, "or to insert a node, below which some successive children of its parent, perhaps none, come");
    apart("a(b c)", "a(b e c)", 1);
    apart("a(b c d)", "a(e(b c) d)", 1);
    apart("a(b c d)", "a(b e(c) d)", 1);
    apart("a(b c d)", "a(e(b c d))", 1);
    // b and d are not successive.
    apart("a(b c d)", "a(e(b d) c)", 3);
    apart("a(b(c) d)", "a(b(c d))", 2);
  }

  private static void promise20Limits() {
    sentence(20, "Computes the smallest number of changes that make tree 1 of tree 0");
    apart("a", "a", 0);
    apart(chain(24), chain(24), 0);
    apart(chain(24), "a", 23);
    apart(chain(24), "h", 24);
    apart(star(23), star(23).replace('b', 'c'), 23);
    apart(star(23), star(23).replace('a', 'd').replace('b', 'c'), 24);
    apart(chain(24), chain(24).replace('a', 'b'), 24);
    // One leaf and the root have counterparts in a chain: 22 are deleted and 22 inserted.
    apart(star(23), chain(24), 45);
    apart(star(23).replace('b', 'a'), chain(24), 44);
    TreeDiffer d = two(9, 100, "a(b c)", "a(c b)");
    due("distance with other settings", d.distance(), 2);
    stepOnToTheEnd(d);
    due("distance after the script", d.distance(), 2);
    put(d, 1, "a(b c)");
    due("distance of another tree", d.distance(), 0);
    d.exchange();
    due("distance of equal trees", d.distance(), 0);
  }
}
