/** The boundary cases of the working tree: promises 21 to 25. */
final class WorkingBoundaries extends TestKit {
  static void all() {
    promise21Start();
    promise21WhenItBecomesTree0();
    promise22All();
    promise22NumbersStay();
    promise23None();
    promise23EachKind();
    promise23WayBack();
    promise24Nodes();
    promise24Places();
    promise24Roots();
    promise25Nodes();
    promise25What();
  }

  /** Has all four kinds of steps: U0 2, M1 0 1, I103 0 2 e9, D3. */
  private static TreeDiffer fourKinds() {
    return two(1, 0, "a1(b c d)", "a2(c b e9)");
  }

  private static void promise21Start() {
    sentence(21, "Returns the number of steps that were carried out before.");
    due("start of a new object", new TreeDiffer().start(), 0);
    TreeDiffer d = fourKinds();
    due("start at the beginning", d.start(), 0);
    stepOnToTheEnd(d);
    due("start after all steps", d.start(), 4);
    due("start again", d.start(), 0);
    dueText("print(2)", shown(d, 2), "a1(b c d)");
    d.stepOn();
    d.stepOn();
    d.stepBack();
    due("start after a step taken back", d.start(), 1);
    due("stepBack after start", d.stepBack(), NOT_POSSIBLE);
    due("stepOn after start", d.stepOn(), 1);
    dueText("print(2)", shown(d, 2), "a2(b c d)");
  }

  private static void begun(String call, TreeDiffer d, String want) {
    due("start after " + call, d.start(), 0);
    dueText("print(2) after " + call, shown(d, 2), want);
    due("workingNode(103, 0) after " + call, d.workingNode(103, 0), BAD_INDEX);
  }

  private static TreeDiffer atTheEnd() {
    TreeDiffer d = fourKinds();
    d.save(0);
    stepOnToTheEnd(d);
    return d;
  }

  private static void promise21WhenItBecomesTree0() {
    sentence(21, "It becomes tree 0 when tree 0 or tree 1 is read, when both are exchanged, when h and p are set, by restore(), and when start() is called; it is at the beginning of the script then.");
    TreeDiffer d = atTheEnd();
    put(d, 0, "c5(d)");
    begun("read(0)", d, "c5(d)");
    d = atTheEnd();
    put(d, 1, "c5(d)");
    begun("read(1)", d, "a1(b c d)");
    d = atTheEnd();
    d.exchange();
    begun("exchange", d, "a2(c b e9)");
    d = atTheEnd();
    d.setMatching(1, 0);
    begun("setMatching", d, "a1(b c d)");
    d = atTheEnd();
    d.restore(0);
    begun("restore", d, "a1(b c d)");
    d = atTheEnd();
    d.start();
    begun("start", d, "a1(b c d)");
    d = atTheEnd();
    d.save(1);
    d.print(0);
    d.clearText();
    d.checksum();
    due("start after other calls", d.start(), 4);
  }

  private static void promise22All() {
    sentence(22, "Returns the number of steps that are carried out then; NOT_POSSIBLE if all are.");
    due("stepOn of a new object", new TreeDiffer().stepOn(), NOT_POSSIBLE);
    TreeDiffer d = two(star(23), star(23).replace('a', 'c').replace('b', 'd'));
    for (int i = 1; i <= 48; i++) due("stepOn number " + i, d.stepOn(), i);
    due("stepOn after the last step", d.stepOn(), NOT_POSSIBLE);
    due("stepOn once more", d.stepOn(), NOT_POSSIBLE);
    dueText("print(2)", shown(d, 2), shown(d, 1));
    due("stepBack", d.stepBack(), 47);
    due("stepOn is possible again", d.stepOn(), 48);
    due("stepOn after the last step", d.stepOn(), NOT_POSSIBLE);
    due("start", d.start(), 48);
  }

  private static void promise22NumbersStay() {
    sentence(22, "The nodes of the working tree keep their numbers while a script is carried out");
    TreeDiffer d = fourKinds();
    stepOnToTheEnd(d);
    due("workingChild(0, 0)", d.workingChild(0, 0), 2);
    due("workingChild(0, 1)", d.workingChild(0, 1), 1);
    due("workingChild(0, 2)", d.workingChild(0, 2), 103);
    due("workingNode(3, 0), deleted", d.workingNode(3, 0), BAD_INDEX);
    due("workingNode(2, 0)", d.workingNode(2, 0), 2);
  }

  private static void promise23None() {
    sentence(23, "Returns the number of steps that are carried out then; NOT_POSSIBLE if none is.");
    due("stepBack of a new object", new TreeDiffer().stepBack(), NOT_POSSIBLE);
    TreeDiffer d = fourKinds();
    due("stepBack at the beginning", d.stepBack(), NOT_POSSIBLE);
    stepOnToTheEnd(d);
    for (int i = 3; i >= 0; i--) due("stepBack", d.stepBack(), i);
    due("stepBack at the beginning again", d.stepBack(), NOT_POSSIBLE);
    due("stepBack once more", d.stepBack(), NOT_POSSIBLE);
    due("stepOn", d.stepOn(), 1);
    dueText("print(2)", shown(d, 2), "a2(b c d)");
  }

  private static void promise23EachKind() {
    sentence(23, "an inserted node is deleted, a deleted one inserted where it was, with its number, a moved one moved back, an updated one gets its old value");
    TreeDiffer d = fourKinds();
    stepOnToTheEnd(d);
    d.stepBack();
    due("the deleted one is where it was", d.workingChild(0, 3), 3);
    due("its label", d.workingNode(3, 0), 3);
    due("its parent", d.workingNode(3, 2), 0);
    d.stepBack();
    due("the inserted one is away", d.workingNode(103, 0), BAD_INDEX);
    due("the next one is in its place", d.workingChild(0, 2), 3);
    d.stepBack();
    due("the moved one is back", d.workingChild(0, 0), 1);
    due("the one before it, too", d.workingChild(0, 1), 2);
    d.stepBack();
    due("the old value is back", d.workingNode(0, 1), 1);
    // Deleted in the midst of others, with a value and below another parent.
    d = two(1, 0, "a(b c(d7 e8 f9) g)", "a(b c(d7 f9) g)");
    stepOnToTheEnd(d);
    due("the deleted one", d.workingNode(4, 1), BAD_INDEX);
    d.stepBack();
    due("it is in the midst again", d.workingChild(2, 1), 4);
    due("its value", d.workingNode(4, 1), 8);
    // Moved from one parent to another.
    d = two(1, 0, "a(b(c d e) f(g))", "a(b(c e) f(d g))");
    d.stepOn();
    due("the moved one is elsewhere", d.workingNode(3, 2), 5);
    d.stepBack();
    due("the moved one is back below its parent", d.workingNode(3, 2), 1);
    due("at its place", d.workingChild(1, 1), 3);
    due("and away from the other one", d.workingChild(5, 0), 6);
  }

  private static void promise23WayBack() {
    sentence(23, "Takes the latest step back.");
    TreeDiffer d = two(1, 0, "a(e(f) b1(c d) g(h) h)", "a(e(b2(d c) f) d9)");
    int steps = d.steps();
    String[] states = new String[steps + 1];
    for (int i = 0; i <= steps; i++) {
      states[i] = shown(d, 2);
      d.stepOn();
    }
    for (int i = steps - 1; i >= 0; i--) {
      due("stepBack", d.stepBack(), i);
      dueText("print(2)", shown(d, 2), states[i]);
      d.stepOn();
      dueText("print(2) on again", shown(d, 2), states[i + 1]);
      d.stepBack();
    }
  }

  private static void promise24Nodes() {
    sentence(24, "- `node`: the number of a node of the working tree, or -1");
    TreeDiffer d = two(star(23), "h(c)");
    due("workingChild(-1, 0)", d.workingChild(-1, 0), 0);
    due("workingChild(23, 0), the last one", d.workingChild(23, 0), NONE);
    for (int node : new int[] {-2, 24, 47, 48, 99, 100, 101, 123, 124, 148, LEAST, MOST}) {
      due("workingChild(" + node + ", 0)", d.workingChild(node, 0), BAD_INDEX);
    }
    stepOnToTheEnd(d);
    due("workingChild(100, 0)", d.workingChild(100, 0), 101);
    due("workingChild(101, 0)", d.workingChild(101, 0), NONE);
    due("workingChild(102, 0)", d.workingChild(102, 0), BAD_INDEX);
    due("workingChild(0, 0), deleted", d.workingChild(0, 0), BAD_INDEX);
    due("workingChild(0, -1), deleted", d.workingChild(0, -1), BAD_INDEX);
    d = two("h", chain(24));
    stepOnToTheEnd(d);
    due("workingChild(122, 0)", d.workingChild(122, 0), 123);
    due("workingChild(123, 0), the last one", d.workingChild(123, 0), NONE);
    for (int node : new int[] {1, 23, 24, 47, 48, 99, 124}) {
      due("workingChild(" + node + ", 0) among inserted nodes", d.workingChild(node, 0), BAD_INDEX);
    }
  }

  private static void promise24Places() {
    sentence(24, "NONE if there is no such child (also if place is negative)");
    TreeDiffer d = two(star(23), "a");
    due("workingChild(0, 0)", d.workingChild(0, 0), 1);
    due("workingChild(0, 22)", d.workingChild(0, 22), 23);
    for (int place : new int[] {-1, 23, LEAST, MOST}) {
      due("workingChild(0, " + place + ")", d.workingChild(0, place), NONE);
    }
    for (int place : new int[] {-1, 1, LEAST, MOST}) {
      due("workingChild(-1, " + place + ")", d.workingChild(-1, place), NONE);
    }
    d.stepOn();
    due("workingChild(0, 0) after a deletion", d.workingChild(0, 0), 2);
    due("workingChild(0, 22) after a deletion", d.workingChild(0, 22), NONE);
    stepOnToTheEnd(d);
    due("workingChild(0, 0) after all of them", d.workingChild(0, 0), NONE);
  }

  private static void promise24Roots() {
    sentence(24, "The working tree has a node -1, too; while a script is carried out, this may have no children, or several ones.");
    TreeDiffer d = two("a", "b");
    d.stepOn();
    due("workingChild(-1, 0), inserted", d.workingChild(-1, 0), 100);
    due("workingChild(-1, 1), to be deleted", d.workingChild(-1, 1), 0);
    due("workingChild(-1, 2)", d.workingChild(-1, 2), NONE);
    due("the parent of 0", d.workingNode(0, 2), -1);
    due("the parent of 100", d.workingNode(100, 2), -1);
    d.stepOn();
    due("workingChild(-1, 1) after the deletion", d.workingChild(-1, 1), NONE);
    d.stepBack();
    due("workingChild(-1, 1) with the deletion taken back", d.workingChild(-1, 1), 0);
    d.stepBack();
    due("workingChild(-1, 0) at the beginning", d.workingChild(-1, 0), 0);
    due("workingChild(-1, 1) at the beginning", d.workingChild(-1, 1), NONE);
  }

  private static void promise25Nodes() {
    sentence(25, "- `node`: the number of a node of the working tree");
    TreeDiffer d = two("b7(c8)", "d9(e)");
    due("workingNode(1, 0), the last one", d.workingNode(1, 0), 2);
    for (int node : new int[] {-1, -2, 2, 23, 24, 48, 99, 100, 101, 124, LEAST, MOST}) {
      due("workingNode(" + node + ", 0)", d.workingNode(node, 0), BAD_INDEX);
    }
    stepOnToTheEnd(d);
    due("workingNode(100, 1)", d.workingNode(100, 1), 9);
    due("workingNode(101, 2)", d.workingNode(101, 2), 100);
    for (int node : new int[] {-1, 2, 24, 25, 48, 99, 102}) {
      due("workingNode(" + node + ", 0) among inserted nodes", d.workingNode(node, 0), BAD_INDEX);
    }
    due("workingNode(0, 0), deleted", d.workingNode(0, 0), BAD_INDEX);
    due("workingNode(1, 0), deleted", d.workingNode(1, 0), BAD_INDEX);
    due("node(0, 1, 1) stays", d.node(0, 1, 1), 8);
  }

  private static void promise25What() {
    sentence(25, "`what`: 0 for its label, 1 for its value, 2 for its parent");
    TreeDiffer d = two("h99(a)", "h1");
    int[] want = {7, 99, -1};
    for (int what = 0; what <= 2; what++) due("workingNode(0, " + what + ")", d.workingNode(0, what), want[what]);
    for (int what : new int[] {-1, 3, 4, 5, LEAST, MOST}) {
      due("workingNode(0, " + what + ")", d.workingNode(0, what), BAD_VALUE);
    }
    d.stepOn();
    due("the value updated", d.workingNode(0, 1), 1);
    sentence(25, "Returns this number; BAD_INDEX; BAD_VALUE.");
    due("workingNode(24, 3)", d.workingNode(24, 3), BAD_INDEX);
    due("workingNode(-1, 3)", d.workingNode(-1, 3), BAD_INDEX);
    due("workingNode(-1, 2)", d.workingNode(-1, 2), BAD_INDEX);
  }
}
