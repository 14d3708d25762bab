/** The boundary cases of new objects and of the trees: promises 1 and 7 to 11. */
final class TreeBoundaries extends TestKit {
  static void all() {
    promise01Constants();
    promise01Trees();
    promise01Rest();
    promise07Exchange();
    promise08Nodes();
    promise09Ranges();
    promise09Parent();
    promise09Height();
    promise09Descendants();
    promise09Numbers();
    promise10Places();
    promise10WhichNode();
    promise11Equal();
    promise11Ranges();
  }

  private static void promise01Constants() {
    sentence(1, "`BAD_INDEX = -11`: There is no such tree, node, step, slot or index.");
    due("BAD_INDEX", TreeDiffer.BAD_INDEX, -11);
    sentence(1, "`BAD_VALUE = -12`: Another argument is out of range.");
    due("BAD_VALUE", TreeDiffer.BAD_VALUE, -12);
    sentence(1, "`NOT_POSSIBLE = -13`: The call is not possible now.");
    due("NOT_POSSIBLE", TreeDiffer.NOT_POSSIBLE, -13);
    sentence(1, "`FULL = -14`: There is no room.");
    due("FULL", TreeDiffer.FULL, -14);
    sentence(1, "`NONE = -15`: There is no such thing; not an error.");
    due("NONE", TreeDiffer.NONE, -15);
    sentence(1, "`UPDATE = 0, INSERT = 1, MOVE = 2, DELETE = 3`: Kinds of steps.");
    due("UPDATE", TreeDiffer.UPDATE, 0);
    due("INSERT", TreeDiffer.INSERT, 1);
    due("MOVE", TreeDiffer.MOVE, 2);
    due("DELETE", TreeDiffer.DELETE, 3);
  }

  private static void promise01Trees() {
    sentence(1, "at first each has one node, with the label 0 and the value 0");
    TreeDiffer d = new TreeDiffer();
    int[] want = {0, 0, -1, 0, 1, 0};
    for (int tree = 0; tree <= 1; tree++) {
      due("nodes(" + tree + ")", d.nodes(tree), 1);
      for (int what = 0; what <= 5; what++) {
        due("node(" + tree + ", 0, " + what + ")", d.node(tree, 0, what), want[what]);
      }
      due("child(" + tree + ", 0, 0)", d.child(tree, 0, 0), NONE);
      due("node(" + tree + ", 1, 0)", d.node(tree, 1, 0), BAD_INDEX);
    }
    for (int what = 0; what <= 2; what++) due("workingNode(0, " + what + ")", d.workingNode(0, what), want[what]);
    due("workingChild(-1, 0)", d.workingChild(-1, 0), 0);
    due("workingChild(-1, 1)", d.workingChild(-1, 1), NONE);
    due("workingNode(1, 0)", d.workingNode(1, 0), BAD_INDEX);
    for (int tree = 0; tree <= 2; tree++) dueText("print(" + tree + ")", shown(d, tree), "a");
  }

  private static void promise01Rest() {
    sentence(1, "Creates a differ with trees and settings as at first, an empty text, nothing printed and empty slots.");
    TreeDiffer d = new TreeDiffer();
    due("printed(0)", d.printed(0), BAD_INDEX);
    due("faultPosition", d.faultPosition(), 0);
    due("restore(0)", d.restore(0), NOT_POSSIBLE);
    due("restore(1)", d.restore(1), NOT_POSSIBLE);
    due("pairs", d.pairs(), 1);
    due("phase(0), the roots have the least height 1", d.phase(0), 3);
    due("steps", d.steps(), 0);
    due("distance", d.distance(), 0);
    due("start", d.start(), 0);
    due("clearText", d.clearText(), 0);
    due("setMatching", d.setMatching(1, 0), 2050);
    TreeDiffer used = two("b(c)", "d");
    used.print(0);
    used.save(0);
    dueText("another new object", shown(new TreeDiffer(), 0), "a");
    due("its slots", new TreeDiffer().restore(0), NOT_POSSIBLE);
  }

  private static void promise07Exchange() {
    sentence(7, "Returns the number of nodes of tree 0 then.");
    TreeDiffer d = new TreeDiffer();
    due("exchange of a new object", d.exchange(), 1);
    put(d, 0, star(23));
    due("exchange of 24 nodes and 1", d.exchange(), 1);
    due("nodes(1)", d.nodes(1), 24);
    due("exchange of 1 node and 24", d.exchange(), 24);
    due("nodes(1)", d.nodes(1), 1);
    sentence(7, "Exchanges tree 0 and tree 1.");
    d = two("b1(c)", "d2");
    d.setMatching(9, 100);
    d.save(0);
    d.print(0);
    add(d, "(");
    d.exchange();
    dueText("tree 0", shown(d, 0), "d2");
    dueText("tree 1", shown(d, 1), "b1(c)");
    due("the text stays", d.clearText(), 3);
    due("h and p stay", d.setMatching(2, 50), 9100);
    due("the slot stays", d.restore(0), 2);
  }

  private static void promise08Nodes() {
    sentence(8, "- `tree`: 0 or 1");
    TreeDiffer d = two(star(23), "b");
    for (int tree : new int[] {-1, 2, 3, LEAST, MOST}) due("nodes(" + tree + ")", d.nodes(tree), BAD_INDEX);
    sentence(8, "A tree has 1 to 24 nodes.");
    due("nodes(0)", d.nodes(0), 24);
    due("nodes(1)", d.nodes(1), 1);
    d.stepOn();
    due("nodes(0) after a step", d.nodes(0), 24);
  }

  private static void promise09Ranges() {
    sentence(9, "- `node`: a node of it");
    TreeDiffer d = two(star(23), "h99(b c)");
    due("node(0, 23, 0), the last one", d.node(0, 23, 0), 1);
    due("node(1, 2, 0), the last one", d.node(1, 2, 0), 2);
    for (int node : new int[] {-1, 24, 100, LEAST, MOST}) {
      due("node(0, " + node + ", 0)", d.node(0, node, 0), BAD_INDEX);
    }
    due("node(1, 3, 0), a node of tree 0 only", d.node(1, 3, 0), BAD_INDEX);
    for (int tree : new int[] {-1, 2, LEAST, MOST}) due("node(" + tree + ", 0, 0)", d.node(tree, 0, 0), BAD_INDEX);
    sentence(9, "`what`: 0 for its label, 1 for its value, 2 for its parent, 3 for the number of its children, 4 for its height, 5 for the number of its descendants");
    for (int what : new int[] {-1, 6, LEAST, MOST}) due("node(0, 0, " + what + ")", d.node(0, 0, what), BAD_VALUE);
    int[] want = {7, 99, -1, 2, 2, 2};
    for (int what = 0; what <= 5; what++) due("node(1, 0, " + what + ")", d.node(1, 0, what), want[what]);
    sentence(9, "A node has a label from 0 to 7 (written a to h), a value from 0 to 99, and children in an order.");
    put(d, 0, "a(h99 a0)");
    due("the least label", d.node(0, 2, 0), 0);
    due("the greatest label", d.node(0, 1, 0), 7);
    due("the least value", d.node(0, 2, 1), 0);
    due("the greatest value", d.node(0, 1, 1), 99);
  }

  private static void promise09Parent() {
    sentence(9, "Returns this number (the parent of the root is -1)");
    TreeDiffer d = two(chain(24), star(23));
    for (int tree = 0; tree <= 1; tree++) due("node(" + tree + ", 0, 2)", d.node(tree, 0, 2), -1);
    for (int i = 1; i < 24; i++) {
      due("node(0, " + i + ", 2)", d.node(0, i, 2), i - 1);
      due("node(1, " + i + ", 2)", d.node(1, i, 2), 0);
    }
    due("children of the root of a star", d.node(1, 0, 3), 23);
    due("children of the root of a chain", d.node(0, 0, 3), 1);
    due("children of the end of a chain", d.node(0, 23, 3), 0);
  }

  private static void promise09Height() {
    sentence(9, "The height of a node without children is 1, that of another one is 1 more than the greatest height of its children.");
    TreeDiffer d = two(chain(24), star(23));
    for (int i = 0; i < 24; i++) due("the height of " + i, d.node(0, i, 4), 24 - i);
    due("the height of a star", d.node(1, 0, 4), 2);
    due("the height of a leaf", d.node(1, 23, 4), 1);
    put(d, 0, "a(b(c(d)) e(f) g)");
    due("the highest child is the first", d.node(0, 0, 4), 4);
    put(d, 0, "a(g e(f) b(c(d)))");
    due("the highest child is the last", d.node(0, 0, 4), 4);
  }

  private static void promise09Descendants() {
    sentence(9, "The descendants of a node are the nodes below it (not itself).");
    TreeDiffer d = two(chain(24), star(23));
    for (int i = 0; i < 24; i++) due("the descendants of " + i, d.node(0, i, 5), 23 - i);
    due("the descendants of the root of a star", d.node(1, 0, 5), 23);
    due("the descendants of a leaf", d.node(1, 1, 5), 0);
  }

  private static void promise09Numbers() {
    sentence(9, "The nodes of a tree are numbered from 0 in preorder: a node comes before its children, and the nodes below a child before the next child.");
    TreeDiffer d = two("a(b(c d) e(f) g)", "a");
    for (int i = 0; i < 7; i++) due("the label of " + i, d.node(0, i, 0), i);
    sentence(9, "Trees 0 and 1 are numbered so at any time.");
    stepOnToTheEnd(d);
    for (int i = 0; i < 7; i++) due("the label of " + i + " after the script", d.node(0, i, 0), i);
    d.exchange();
    for (int i = 0; i < 7; i++) due("the label of " + i + " after exchange", d.node(1, i, 0), i);
  }

  private static void promise10Places() {
    sentence(10, "NONE if there is no such child (also if place is negative)");
    TreeDiffer d = two(star(23), "a(b(c) d)");
    due("child(0, 0, 0)", d.child(0, 0, 0), 1);
    due("child(0, 0, 22)", d.child(0, 0, 22), 23);
    for (int place : new int[] {-1, 23, LEAST, MOST}) due("child(0, 0, " + place + ")", d.child(0, 0, place), NONE);
    for (int place : new int[] {-1, 0, 1}) due("child(0, 23, " + place + ")", d.child(0, 23, place), NONE);
    due("child(1, 0, 1)", d.child(1, 0, 1), 3);
    due("child(1, 0, 2)", d.child(1, 0, 2), NONE);
    due("child(1, 1, 1), the place of a node above", d.child(1, 1, 1), NONE);
  }

  private static void promise10WhichNode() {
    sentence(10, "BAD_INDEX if there is no such tree or node");
    TreeDiffer d = two("a(b)", "a(b c)");
    for (int tree : new int[] {-1, 2, LEAST, MOST}) due("child(" + tree + ", 0, 0)", d.child(tree, 0, 0), BAD_INDEX);
    for (int node : new int[] {-1, 2, 24, LEAST, MOST}) due("child(0, " + node + ", 0)", d.child(0, node, 0), BAD_INDEX);
    due("child(1, 2, 0)", d.child(1, 2, 0), NONE);
    due("child(0, 2, -1)", d.child(0, 2, -1), BAD_INDEX);
    due("child(2, 0, -1)", d.child(2, 0, -1), BAD_INDEX);
  }

  private static void same(String first, String second, int want) {
    TreeDiffer d = two(first, second);
    due("equal(0, 0) of " + first + " and " + second, d.equal(0, 0), want);
    d.exchange();
    due("equal(0, 0) of " + second + " and " + first, d.equal(0, 0), want);
  }

  private static void promise11Equal() {
    sentence(11, "Two nodes are equal if they have the same label, the same value, and as many children that are equal in their order.");
    same("a", "a", 1);
    same("a", "a0", 1);
    same("a", "b", 0);
    same("a", "a1", 0);
    same("a98", "a99", 0);
    same("a(b c)", "a(b c)", 1);
    same("a(b c)", "a(c b)", 0);
    same("a(b)", "a", 0);
    same("a(b c)", "a(b)", 0);
    same("a(b c)", "a(b(c))", 0);
    same("a(b(c) d)", "a(b(c d))", 0);
    same("a(b(c(d)))", "a(b(c(d1)))", 0);
    same("a(b(c(d)))", "a(b(c(e)))", 0);
    same(chain(24), chain(24), 1);
    same(chain(24), chain(23), 0);
    same(star(23), star(22), 0);
    same(star(23), star(23), 1);
    TreeDiffer d = two("a(b c)", "d(b c(b))");
    due("equal(1, 1) of leaves", d.equal(1, 1), 1);
    due("equal(1, 3) of leaves elsewhere", d.equal(1, 3), 1);
    due("equal(2, 2) of a leaf and none", d.equal(2, 2), 0);
  }

  private static void promise11Ranges() {
    sentence(11, "Returns 1 if they are equal, 0 if not; BAD_INDEX.");
    TreeDiffer d = two(star(23), "a(b)");
    due("equal(23, 1)", d.equal(23, 1), 1);
    due("equal(0, 0)", d.equal(0, 0), 0);
    for (int node : new int[] {-1, 24, LEAST, MOST}) due("equal(" + node + ", 0)", d.equal(node, 0), BAD_INDEX);
    for (int other : new int[] {-1, 2, 23, LEAST, MOST}) due("equal(0, " + other + ")", d.equal(0, other), BAD_INDEX);
    due("equal(24, 2)", d.equal(24, 2), BAD_INDEX);
  }
}
