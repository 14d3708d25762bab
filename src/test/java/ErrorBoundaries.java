import java.util.function.ToLongFunction;

/** Errors: the order of the checks, and that a call that reports one changes nothing. */
final class ErrorBoundaries extends TestKit {
  static void all() {
    orderOfChecks();
    noneIsLast();
    changesNothing();
  }

  private static void orderOfChecks() {
    String words = "Where several can apply, the order of the @return line is the order of the checks.";
    TreeDiffer d = two("a1(b c d)", "a2");
    type(d, "a(".repeat(50));
    sentence(2, words);
    due("append(128) to a full text", d.append(128), BAD_VALUE);
    sentence(6, words);
    due("read(2) of a text with a fault", d.read(2), BAD_INDEX);
    sentence(9, words);
    due("node(2, 0, 6)", d.node(2, 0, 6), BAD_INDEX);
    due("node(0, 4, 6)", d.node(0, 4, 6), BAD_INDEX);
    due("node(1, 1, -1)", d.node(1, 1, -1), BAD_INDEX);
    sentence(18, words);
    due("step(-1, 6)", d.step(-1, 6), BAD_INDEX);
    due("step(" + d.steps() + ", -1)", d.step(d.steps(), -1), BAD_INDEX);
    sentence(25, words);
    due("workingNode(4, 3)", d.workingNode(4, 3), BAD_INDEX);
    due("workingNode(-1, -1)", d.workingNode(-1, -1), BAD_INDEX);
    sentence(29, words);
    due("restore(2) with empty slots", d.restore(2), BAD_INDEX);
  }

  private static void noneIsLast() {
    String words = "NONE is not an error and is returned only if no error applies.";
    TreeDiffer d = two("a1(b c d)", "a2");
    sentence(10, words);
    due("child(0, 4, -1)", d.child(0, 4, -1), BAD_INDEX);
    due("child(2, 0, 9)", d.child(2, 0, 9), BAD_INDEX);
    due("child(0, 3, 9)", d.child(0, 3, 9), NONE);
    sentence(14, words);
    due("partner(2, 3)", d.partner(2, 3), BAD_INDEX);
    due("partner(1, 3)", d.partner(1, 3), BAD_INDEX);
    due("partner(0, 3)", d.partner(0, 3), NONE);
    sentence(15, words);
    due("phase(4)", d.phase(4), BAD_INDEX);
    due("phase(3)", d.phase(3), NONE);
    sentence(18, words);
    due("step(0, 6), whatever its kind", d.step(0, 6), BAD_VALUE);
    due("step(9, 2)", d.step(9, 2), BAD_INDEX);
    due("step(0, 2)", d.step(0, 2), NONE);
    sentence(24, words);
    due("workingChild(4, -1)", d.workingChild(4, -1), BAD_INDEX);
    due("workingChild(3, -1)", d.workingChild(3, -1), NONE);
  }

  /** In the midst of a script, with something in each part of the object. */
  private static TreeDiffer midst() {
    TreeDiffer d = two("b(c)", "d(e)");
    d.save(1);
    put(d, 0, "a1(b c d)");
    put(d, 1, "a2(c b e9)");
    d.setMatching(1, 33);
    d.stepOn();
    d.stepOn();
    d.print(2);
    type(d, "a(b i" + "(".repeat(95));
    return d;
  }

  private static void at(StringBuilder b, long answer) {
    b.append(answer).append(' ');
  }

  /** All that can be seen of an object. What changes it comes last. */
  private static String everything(TreeDiffer d) {
    StringBuilder b = new StringBuilder();
    at(b, d.faultPosition());
    at(b, d.faultDepth());
    for (int i = 0; d.printed(i) != BAD_INDEX; i++) at(b, d.printed(i));
    at(b, d.checksum());
    at(b, d.start());
    b.append(shown(d, 0)).append(' ').append(shown(d, 1)).append(' ');
    at(b, d.clearText());
    at(b, d.restore(0));
    at(b, d.setMatching(2, 50));
    at(b, d.restore(1));
    at(b, d.checksum());
    at(b, d.setMatching(2, 50));
    return b.toString();
  }

  private static void refused(int promise, String call, ToLongFunction<TreeDiffer> asked, int error) {
    sentence(promise, "A call that reports an error changes nothing.");
    TreeDiffer d = midst();
    due(call, asked.applyAsLong(d), error);
    dueText("all that is seen after " + call, everything(d), everything(midst()));
  }

  private static void changesNothing() {
    refused(2, "append(-1)", d -> d.append(-1), BAD_VALUE);
    refused(2, "append(128)", d -> d.append(128), BAD_VALUE);
    refused(2, "append to a full text", d -> d.append('a'), FULL);
    refused(6, "read(2)", d -> d.read(2), BAD_INDEX);
    refused(6, "read(-1)", d -> d.read(-1), BAD_INDEX);
    refused(6, "read(0) of a fault", d -> d.read(0), NOT_POSSIBLE);
    refused(6, "read(1) of a fault", d -> d.read(1), NOT_POSSIBLE);
    refused(8, "nodes(2)", d -> d.nodes(2), BAD_INDEX);
    refused(9, "node(0, 4, 0)", d -> d.node(0, 4, 0), BAD_INDEX);
    refused(9, "node(0, 0, 6)", d -> d.node(0, 0, 6), BAD_VALUE);
    refused(10, "child(2, 0, 0)", d -> d.child(2, 0, 0), BAD_INDEX);
    refused(11, "equal(4, 0)", d -> d.equal(4, 0), BAD_INDEX);
    refused(11, "equal(0, 4)", d -> d.equal(0, 4), BAD_INDEX);
    refused(12, "setMatching(0, 50)", d -> d.setMatching(0, 50), BAD_VALUE);
    refused(12, "setMatching(10, 50)", d -> d.setMatching(10, 50), BAD_VALUE);
    refused(12, "setMatching(2, -1)", d -> d.setMatching(2, -1), BAD_VALUE);
    refused(12, "setMatching(2, 101)", d -> d.setMatching(2, 101), BAD_VALUE);
    refused(14, "partner(0, 4)", d -> d.partner(0, 4), BAD_INDEX);
    refused(15, "phase(4)", d -> d.phase(4), BAD_INDEX);
    refused(16, "likeness(4, 0)", d -> d.likeness(4, 0), BAD_INDEX);
    refused(16, "likeness(0, 4)", d -> d.likeness(0, 4), BAD_INDEX);
    refused(18, "step(99, 0)", d -> d.step(99, 0), BAD_INDEX);
    refused(18, "step(0, 6)", d -> d.step(0, 6), BAD_VALUE);
    refused(19, "count(4)", d -> d.count(4), BAD_VALUE);
    refused(22, "stepOn after the last step", ErrorBoundaries::stepOnTooFar, NOT_POSSIBLE);
    refused(23, "stepBack before the first step", ErrorBoundaries::stepBackTooFar, NOT_POSSIBLE);
    refused(24, "workingChild(4, 0)", d -> d.workingChild(4, 0), BAD_INDEX);
    refused(25, "workingNode(4, 0)", d -> d.workingNode(4, 0), BAD_INDEX);
    refused(25, "workingNode(0, 3)", d -> d.workingNode(0, 3), BAD_VALUE);
    refused(26, "print(3)", d -> d.print(3), BAD_INDEX);
    refused(26, "print(-1)", d -> d.print(-1), BAD_INDEX);
    refused(27, "printed(-1)", d -> d.printed(-1), BAD_INDEX);
    refused(28, "save(2)", d -> d.save(2), BAD_INDEX);
    refused(29, "restore(2)", d -> d.restore(2), BAD_INDEX);
    refused(29, "restore(0) of an empty slot", d -> d.restore(0), NOT_POSSIBLE);
  }

  /** Goes on beyond the end and back to where it was. */
  private static long stepOnTooFar(TreeDiffer d) {
    int before = 2;
    stepOnToTheEnd(d);
    long answer = d.stepOn();
    for (int i = d.steps(); i > before; i--) d.stepBack();
    return answer;
  }

  /** Goes back beyond the beginning and on to where it was. */
  private static long stepBackTooFar(TreeDiffer d) {
    d.stepBack();
    d.stepBack();
    long answer = d.stepBack();
    d.stepOn();
    d.stepOn();
    return answer;
  }
}
