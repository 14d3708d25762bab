/** The boundary cases of the text and of reading: promises 2 to 6. */
final class TextBoundaries extends TestKit {
  private static final String LABELS = "abcdefgh";
  private static final String DIGITS = "0123456789";

  static void all() {
    promise02Letters();
    promise02Full();
    promise03ClearText();
    promise04Position();
    promise04TooEarly();
    promise04Labels();
    promise04Values();
    promise04Children();
    promise04EachByte();
    promise04TooManyNodes();
    promise05Depth();
    promise06WhichTree();
    promise06Fault();
    promise06Nodes();
    promise06OtherThings();
  }

  private static TreeDiffer typed(String text) {
    TreeDiffer d = new TreeDiffer();
    add(d, text);
    return d;
  }

  private static void position(String text, int want) {
    due("faultPosition of '" + text + "'", typed(text).faultPosition(), want);
  }

  private static void depth(String text, int want) {
    due("faultDepth of '" + text + "'", typed(text).faultDepth(), want);
  }

  private static void promise02Letters() {
    sentence(2, "`letter`: 0 to 127");
    TreeDiffer d = new TreeDiffer();
    due("append(-1)", d.append(-1), BAD_VALUE);
    due("append(128)", d.append(128), BAD_VALUE);
    due("append(least)", d.append(LEAST), BAD_VALUE);
    due("append(most)", d.append(MOST), BAD_VALUE);
    due("append('a' + 256)", d.append('a' + 256), BAD_VALUE);
    due("append(0)", d.append(0), 1);
    due("append(127)", d.append(127), 2);
    due("the length", d.clearText(), 2);
  }

  private static void promise02Full() {
    sentence(2, "The text has at most 100 bytes");
    TreeDiffer d = new TreeDiffer();
    for (int i = 1; i <= 100; i++) due("append number " + i, d.append('a'), i);
    sentence(2, "FULL if it has 100 bytes");
    due("append number 101", d.append('a'), FULL);
    due("append number 102", d.append(0), FULL);
    due("the length", d.clearText(), 100);
    due("append to the text emptied", d.append('a'), 1);
    due("the text emptied has no fault", d.faultPosition(), NONE);
    sentence(2, "Returns the length of the text; BAD_VALUE; FULL if it has 100 bytes.");
    add(d, "a".repeat(99));
    due("append(128) to a full text", d.append(128), BAD_VALUE);
    due("append(-1) to a full text", d.append(-1), BAD_VALUE);
    due("append('a') to a full text", d.append('a'), FULL);
  }

  private static void promise03ClearText() {
    sentence(3, "Returns the length that it had.");
    TreeDiffer d = new TreeDiffer();
    due("clearText of an empty text", d.clearText(), 0);
    add(d, "a");
    due("clearText of one byte", d.clearText(), 1);
    due("clearText again", d.clearText(), 0);
    add(d, "b".repeat(100));
    due("clearText of a full text", d.clearText(), 100);
    sentence(3, "Empties the text.");
    add(d, "a(b(c");
    d.clearText();
    due("faultPosition of the text emptied", d.faultPosition(), 0);
    due("faultDepth of the text emptied", d.faultDepth(), 0);
    due("append", d.append('h'), 1);
    due("read(0)", d.read(0), 1);
    dueText("print(0)", shown(d, 0), "h");
    d.clearText();
    dueText("the tree that was read stays", shown(d, 0), "h");
  }

  private static void promise04Position() {
    sentence(4, "The fault position is the index, counted from 0, of the first byte with which the text does not follow this form");
    position("i", 0);
    position("ii", 0);
    position("a(i)i)", 2);
    position("a(b i)", 4);
    position("a(b)i", 4);
    position("a" + (char) 0, 1);
    position("a" + (char) 127, 1);
    String long93 = "a(" + "b10 ".repeat(21) + "b99(b 1";
    due("its length", long93.length(), 93);
    position(long93 + " ".repeat(7), 92);
    sentence(4, "NONE if it has no fault");
    position("a", NONE);
    position("a(b)", NONE);
    position(longest(), NONE);
    TreeDiffer d = typed("a(b");
    due("faultPosition before the last byte", d.faultPosition(), 3);
    d.append(')');
    due("faultPosition with the last byte", d.faultPosition(), NONE);
    d.append(')');
    due("faultPosition with a byte too many", d.faultPosition(), 4);
  }

  /** A tree of 24 nodes that takes all 100 bytes. */
  private static String longest() {
    return "a10(" + "b10 ".repeat(18) + "b10(b10(b10(b10(h99)))))";
  }

  private static void promise04TooEarly() {
    sentence(4, "or its length if it ends too early");
    position("", 0);
    position("a(", 2);
    position("a(b", 3);
    position("a(b1", 4);
    position("a(b12", 5);
    position("a(b ", 4);
    position("a(b(c)", 6);
    position("a" + "(a".repeat(23), 47);
    // One more parenthesis would close this tree, but there is no room for it.
    String hundred = "a10(" + "b10 ".repeat(17) + "b10(b10(b10(b10(b10(h99)))))";
    due("its length", hundred.length(), 100);
    position(hundred, 100);
    depth(hundred, 1);
  }

  private static void promise04Labels() {
    sentence(4, "A tree is written as a label (a to h)");
    for (char c : LABELS.toCharArray()) position("" + c, NONE);
    for (char c : "`iAHzZ0 ()".toCharArray()) position("" + c, 0);
    position("a(h)", NONE);
    position("a(i)", 2);
    position("a(`)", 2);
    TreeDiffer d = typed("a(b c d e f g h)");
    d.read(1);
    for (int i = 0; i < 8; i++) due("the label of " + i, d.node(1, i, 0), i);
  }

  private static void promise04Values() {
    sentence(4, "one or two digits, the first one not 0 unless it is the only one");
    position("a0", NONE);
    position("a9", NONE);
    position("a10", NONE);
    position("a90", NONE);
    position("a99", NONE);
    position("a00", 2);
    position("a01", 2);
    position("a100", 3);
    position("a999", 3);
    position("a/", 1);
    position("a:", 1);
    position("a1/", 2);
    position("a1:", 2);
    position("a-1", 1);
    position("a(b0 c00)", 7);
    sentence(4, "without it the value is 0");
    TreeDiffer d = typed("a99(b98 c0 d)");
    d.read(0);
    due("the greatest value", d.node(0, 0, 1), 99);
    due("a value of two digits", d.node(0, 1, 1), 98);
    due("the least value", d.node(0, 2, 1), 0);
    due("a value left out", d.node(0, 3, 1), 0);
    put(d, 0, "a(b c d)");
    for (int i = 0; i < 4; i++) due("a value left out where one was", d.node(0, i, 1), 0);
  }

  private static void promise04Children() {
    sentence(4, "and, if it has children, an opening parenthesis, the children, each two of them separated by one space, and a closing parenthesis");
    position("a()", 2);
    position("a(b())", 4);
    position("a((b))", 2);
    position("a( b)", 2);
    position("a(b )", 4);
    position("a(b  c)", 4);
    position("a(bc)", 3);
    position("a(b(c)d)", 6);
    position("a(b(c)(d))", 6);
    position("a(b)(c)", 4);
    position("a(b)1", 4);
    position("a(b))", 4);
    position("a(b) ", 4);
    position("a(b) c", 4);
    position("a b", 1);
    position("a ", 1);
    position("a)", 1);
    position(" a", 0);
    position("(a)", 0);
  }

  /** Of all 128 bytes just those that are told may follow the text. */
  private static void follows(String text, String allowed) {
    for (int letter = 0; letter <= 127; letter++) {
      TreeDiffer d = typed(text);
      d.append(letter);
      boolean isAllowed = allowed.indexOf(letter) >= 0;
      boolean isTaken = d.faultPosition() != text.length();
      due("whether the byte " + letter + " may follow '" + text + "'", isTaken ? 1 : 0, isAllowed ? 1 : 0);
    }
  }

  private static void promise04EachByte() {
    sentence(4, "of the first byte with which the text does not follow this form");
    follows("", LABELS);
    follows("a", DIGITS + "(");
    follows("a0", "(");
    follows("a1", DIGITS + "(");
    follows("a12", "(");
    follows("a(", LABELS);
    follows("a(b", DIGITS + "( )");
    follows("a(b0", "( )");
    follows("a(b9", DIGITS + "( )");
    follows("a(b90", "( )");
    follows("a(b ", LABELS);
    follows("a(b)", "");
    follows("a(b(c)", " )");
    follows("a(" + "b ".repeat(22), LABELS);
    follows("a(" + "b ".repeat(23), "");
    follows("a(" + "b ".repeat(22) + "b(", "");
  }

  private static void promise04TooManyNodes() {
    sentence(4, "the label of a 25th node is a fault, too");
    position(star(23), NONE);
    position(star(24), 48);
    position(chain(24), NONE);
    position(chain(25), 48);
    position("a" + "(a".repeat(23) + " ", 48);
    position("a" + "(a".repeat(23) + "(", 48);
    position("a(" + "b ".repeat(22) + "b(c))", 48);
    position("a(" + "b ".repeat(22) + "b) c", 48);
    depth(star(24), 1);
    depth(chain(25), 24);
    TreeDiffer d = typed(star(24));
    due("read of 25 nodes", d.read(0), NOT_POSSIBLE);
  }

  private static void promise05Depth() {
    sentence(5, "The fault depth is the number of parentheses that are open before this byte.");
    depth("", 0);
    depth("i", 0);
    depth("a)", 0);
    depth("a(", 1);
    depth("a()", 1);
    depth("a((", 1);
    depth("a(b))", 0);
    depth("a(b(c)", 1);
    depth("a(b(c)d", 1);
    depth("a(b(c(d i", 3);
    depth("a(b(c(d) i", 2);
    depth("a(b(c(d)) i", 1);
    depth("a(b(c(d))) i", 0);
    depth("a" + "(a".repeat(23), 23);
    depth("a" + "(a".repeat(23) + "(", 24);
    depth("a" + "(a".repeat(23) + "(((((", 24);
    depth("a" + "(a".repeat(23) + ")".repeat(22), 1);
    depth("a" + "(a".repeat(23) + ")".repeat(24), 0);
    sentence(5, "Returns the fault depth of the text; NONE if it has no fault.");
    depth("a", NONE);
    depth(chain(24), NONE);
    TreeDiffer d = typed("a(b");
    due("faultDepth before the last byte", d.faultDepth(), 1);
    d.append(')');
    due("faultDepth with the last byte", d.faultDepth(), NONE);
  }

  private static void promise06WhichTree() {
    sentence(6, "Makes the tree of the text tree 0 or tree 1.");
    TreeDiffer d = typed("c(d)");
    for (int tree : new int[] {-1, 2, 3, LEAST, MOST}) due("read(" + tree + ")", d.read(tree), BAD_INDEX);
    due("nodes(0) as at first", d.nodes(0), 1);
    due("nodes(1) as at first", d.nodes(1), 1);
    due("read(1)", d.read(1), 2);
    due("nodes(0) stays", d.nodes(0), 1);
    due("read(0)", d.read(0), 2);
    due("nodes(1) stays", d.nodes(1), 2);
  }

  private static void promise06Fault() {
    sentence(6, "BAD_INDEX; NOT_POSSIBLE if the text has a fault");
    TreeDiffer d = new TreeDiffer();
    due("read(2) of an empty text", d.read(2), BAD_INDEX);
    due("read(-1) of an empty text", d.read(-1), BAD_INDEX);
    due("read(0) of an empty text", d.read(0), NOT_POSSIBLE);
    due("read(1) of an empty text", d.read(1), NOT_POSSIBLE);
    put(d, 0, "c(d)");
    due("stepOn", d.stepOn(), 1);
    add(d, ")");
    due("read(0) of a text with a byte too many", d.read(0), NOT_POSSIBLE);
    due("read(1) of a text with a byte too many", d.read(1), NOT_POSSIBLE);
    dueText("tree 0 stays", shown(d, 0), "c(d)");
    dueText("tree 1 stays", shown(d, 1), "a");
    due("the steps carried out stay", d.start(), 1);
  }

  private static void promise06Nodes() {
    sentence(6, "A tree has 1 to 24 nodes.");
    TreeDiffer d = new TreeDiffer();
    due("one node", put(d, 0, "h"), 1);
    due("24 nodes side by side", put(d, 0, star(23)), 24);
    due("25 nodes side by side", put(d, 0, star(24)), NOT_POSSIBLE);
    due("nodes(0)", d.nodes(0), 24);
    due("24 nodes below each other", put(d, 1, chain(24)), 24);
    due("25 nodes below each other", put(d, 1, chain(25)), NOT_POSSIBLE);
    due("nodes(1)", d.nodes(1), 24);
    due("the length of the longest text", longest().length(), 100);
    due("24 nodes in 100 bytes", put(d, 1, longest()), 24);
    dueText("print(1)", shown(d, 1), longest());
  }

  private static void promise06OtherThings() {
    sentence(6, "The text stays.");
    TreeDiffer d = typed("c1(d)");
    d.read(0);
    due("append after read", d.append(' '), 6);
    due("faultPosition after read", d.faultPosition(), 5);
    due("clearText after read", d.clearText(), 6);
    sentence(6, "Returns the number of its nodes");
    due("a great tree", put(d, 0, star(23)), 24);
    due("a small one in its place", put(d, 0, "b2(c)"), 2);
    due("the third node is away", d.node(0, 2, 0), BAD_INDEX);
    due("the children of the root", d.node(0, 0, 3), 1);
    due("the height of the root", d.node(0, 0, 4), 2);
    due("the descendants of the root", d.node(0, 0, 5), 1);
    due("the second child is away", d.child(0, 0, 1), NONE);
  }
}
