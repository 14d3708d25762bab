/** The boundary cases of printing: promises 26 and 27. */
final class PrintBoundaries extends TestKit {
  static void all() {
    promise26WhichTree();
    promise26Values();
    promise26InPlace();
    promise26Several();
    promise26Longest();
    promise26Deepest();
    promise27Index();
    promise27Nothing();
    promise27Stays();
  }

  private static void promise26WhichTree() {
    sentence(26, "- `tree`: 0 to 2");
    TreeDiffer d = two("b", "c1");
    for (int tree : new int[] {-1, 3, LEAST, MOST}) due("print(" + tree + ")", d.print(tree), BAD_INDEX);
    due("nothing was printed", d.printed(0), BAD_INDEX);
    due("print(0)", d.print(0), 1);
    due("print(1)", d.print(1), 2);
    due("print(2)", d.print(2), 1);
    due("print(3)", d.print(3), BAD_INDEX);
    due("what was printed stays", d.printed(0), 'b');
  }

  private static void promise26Values() {
    sentence(26, "(a value 0 is left out)");
    TreeDiffer d = two("a0(b0 c10 d9 e99 f1)", "h");
    dueText("print(0)", shown(d, 0), "a(b c10 d9 e99 f1)");
    dueText("print(2)", shown(d, 2), "a(b c10 d9 e99 f1)");
    d = two("a5", "a0(b0)");
    d.stepOn();
    dueText("a value updated to 0", shown(d, 2), "a");
    d.stepOn();
    dueText("an inserted value 0", shown(d, 2), "a(b)");
    d.stepBack();
    d.stepBack();
    dueText("the old value", shown(d, 2), "a5");
  }

  private static void promise26InPlace() {
    sentence(26, "Prints a tree, in place of what was printed before");
    TreeDiffer d = two("a(b c)", "h9");
    due("print(0)", d.print(0), 6);
    due("print(1)", d.print(1), 2);
    due("printed(0)", d.printed(0), 'h');
    due("printed(1)", d.printed(1), '9');
    due("printed(2)", d.printed(2), BAD_INDEX);
    due("print(0) again", d.print(0), 6);
    due("printed(5)", d.printed(5), ')');
    due("printed(6)", d.printed(6), BAD_INDEX);
  }

  private static void promise26Several() {
    sentence(26, "the children of its node -1 one after the other in the form of the text (a value 0 is left out), each two of them separated by one space");
    TreeDiffer d = two("c2(a(b))", "a(b)");
    d.stepOn();
    dueText("print(2) with two children of -1", shown(d, 2), "a(b) c2");
    d.stepOn();
    dueText("print(2) with one of them", shown(d, 2), "a(b)");
    d = two("a1(b)", "c(d)");
    d.stepOn();
    dueText("print(2) with an inserted root", shown(d, 2), "c a1(b)");
    d.stepOn();
    dueText("print(2) with a node below it", shown(d, 2), "c(d) a1(b)");
    d.stepOn();
    dueText("print(2) with a node deleted", shown(d, 2), "c(d) a1");
    dueText("print(0)", shown(d, 0), "a1(b)");
  }

  private static void promise26Longest() {
    sentence(26, "Returns the number of bytes; BAD_INDEX.");
    String first = "a10(" + "b10 ".repeat(18) + "b10(b10(b10(b10(b99)))))";
    String second = first.replace('a', 'c').replace('b', 'd');
    TreeDiffer d = two(first, second);
    due("print(0) of 100 bytes", d.print(0), 100);
    due("print(1) of 100 bytes", d.print(1), 100);
    dueText("print(1)", shown(d, 1), second);
    for (int i = 0; i < 24; i++) d.stepOn();
    due("print(2) of 48 nodes", d.print(2), 201);
    due("printed(200)", d.printed(200), ')');
    due("printed(100)", d.printed(100), ' ');
    due("printed(101)", d.printed(101), 'a');
    due("print(0) of one node", new TreeDiffer().print(0), 1);
    due("print(0) of a chain", two(chain(24), "a").print(0), 70);
  }

  /** A chain of 24 nodes hangs below 22 inserted ones before its midst is deleted. */
  private static void promise26Deepest() {
    sentence(26, "Prints a tree, in place of what was printed before: the children of its node -1 one after the other in the form of the text");
    TreeDiffer d = two(1, 0, "b" + "(a".repeat(22) + "(h" + ")".repeat(23), "c" + "(c".repeat(21) + "(b(h" + ")".repeat(23));
    for (int i = 0; i < 23; i++) d.stepOn();
    dueText("print(2)", shown(d, 2), "c" + "(c".repeat(21) + "(b" + "(a".repeat(22) + "(h" + ")".repeat(45));
    stepOnToTheEnd(d);
    dueText("print(2) at the end", shown(d, 2), shown(d, 1));
  }

  private static void promise27Index() {
    sentence(27, "the index of a byte that was printed, counted from 0");
    TreeDiffer d = two("b2(c)", "a");
    d.print(0);
    String want = "b2(c)";
    for (int i = 0; i < 5; i++) due("printed(" + i + ")", d.printed(i), want.charAt(i));
    sentence(27, "BAD_INDEX if there is none");
    for (int index : new int[] {-1, 5, 6, 100, 1000, LEAST, MOST}) {
      due("printed(" + index + ")", d.printed(index), BAD_INDEX);
    }
  }

  private static void promise27Nothing() {
    sentence(27, "nothing printed");
    TreeDiffer d = two("b2(c)", "a");
    for (int index : new int[] {-1, 0, 1}) due("printed(" + index + ")", d.printed(index), BAD_INDEX);
    d.print(-1);
    d.print(3);
    d.checksum();
    due("printed(0) after other calls", d.printed(0), BAD_INDEX);
  }

  private static void promise27Stays() {
    sentence(27, "Returns the byte; BAD_INDEX if there is none.");
    TreeDiffer d = two("b2(c)", "a");
    d.save(0);
    d.print(0);
    d.exchange();
    d.stepOn();
    put(d, 0, "d");
    d.restore(0);
    d.start();
    d.clearText();
    due("printed(0) after changes", d.printed(0), 'b');
    due("printed(4) after changes", d.printed(4), ')');
    due("printed(5) after changes", d.printed(5), BAD_INDEX);
  }
}
