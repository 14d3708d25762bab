import java.io.IOException;
import java.nio.file.Files;
import java.nio.file.Path;
import java.util.BitSet;
import java.util.TreeSet;

/** What the tests share: trees from texts, pairs and scripts in a short form, and what is wrong. */
abstract class TestKit {
  static final int BAD_INDEX = -11, BAD_VALUE = -12, NOT_POSSIBLE = -13, FULL = -14, NONE = -15;
  static final int UPDATE = 0, INSERT = 1, MOVE = 2, DELETE = 3;
  static final int LEAST = Integer.MIN_VALUE, MOST = Integer.MAX_VALUE;
  static final int PROMISES = 30;

  private static final TreeSet<Integer> promisesTold = new TreeSet<>();
  private static final TreeSet<String> sentencesTold = new TreeSet<>();
  private static int asked = 0;
  private static int wrong = 0;
  private static int promise = 0;
  private static String sentence = "";
  private static String document = null;
  private static final BitSet bytesTold = new BitSet();

  // ---- the document

  /** Names the sentence of the document that the next answers belong to. */
  static void sentence(int ofPromise, String words) {
    promise = ofPromise;
    sentence = " (" + words + ")";
    sentencesTold.add(ofPromise + " " + words);
    promisesTold.add(ofPromise);
    if (!document().contains(words)) wrongIs("is not in the document");
    // The same words may stand in several promises: each of them needs a test of its own.
    int start = document().indexOf(title(ofPromise));
    int end = endOfSection(start);
    if (start >= 0 && document().substring(start, end).contains(words)) {
      tell(words, start, end);
    } else {
      tell(words, 0, document().indexOf(title(1)));
    }
  }

  /** Words of the document that ask for nothing. */
  static void asksForNothing(String words) {
    promise = 0;
    sentence = " (" + words + ")";
    if (!document().contains(words)) wrongIs("is not in the document");
    tell(words, 0, document().length());
  }

  private static void tell(String words, int from, int end) {
    int at = document().indexOf(words, from);
    while (at >= 0 && at + words.length() <= end) {
      bytesTold.set(at, at + words.length());
      at = document().indexOf(words, at + 1);
    }
  }

  static String title(int ofPromise) {
    return "\n## Promise " + ofPromise + ": ";
  }

  private static int endOfSection(int start) {
    int end = document().indexOf("\n## ", start + 1);
    return end < 0 ? document().length() : end;
  }

  static String document() {
    if (document == null) {
      try {
        document = Files.readString(Path.of("../shared/DOC.md"));
      } catch (IOException e) {
        document = "";
      }
    }
    return document;
  }

  /** A sentence that no test quotes would go untested without a word. */
  static void everySentenceIsTold() {
    promise = 0;
    sentence = "";
    int at = bytesTold.nextClearBit(0);
    while (at < document().length()) {
      int end = bytesTold.nextSetBit(at);
      if (end < 0) end = document().length();
      String words = document().substring(at, end);
      if (words.matches("(?s).*[A-Za-z0-9].*")) wrongIs("no test is told for: " + words.trim());
      at = bytesTold.nextClearBit(end);
    }
  }

  // ---- what is due

  private static void wrongIs(String what) {
    wrong++;
    System.out.println((promise == 0 ? "no promise" : "promise " + promise) + sentence + ": " + what);
  }

  static void due(String call, long got, long want) {
    asked++;
    if (got != want) wrongIs(call + " answered " + got + ", due is " + want);
  }

  static void dueText(String call, String got, String want) {
    asked++;
    if (!got.equals(want)) wrongIs(call + " gave " + got + ", due is " + want);
  }

  static void due(int ofPromise, String call, long got, long want) {
    promise = ofPromise;
    due(call, got, want);
  }

  static void dueText(int ofPromise, String call, String got, String want) {
    promise = ofPromise;
    dueText(call, got, want);
  }

  /** A promise without a sentence of its own would go untested without a word. */
  static void everyPromiseIsTold() {
    for (int i = 1; i <= PROMISES; i++) {
      promise = i;
      sentence = "";
      if (!promisesTold.contains(i)) wrongIs("no sentence is tested");
    }
  }

  static void end() {
    String of = sentencesTold.isEmpty() ? "" : " to " + sentencesTold.size() + " sentences";
    System.out.println(wrong == 0 ? asked + " answers" + of + " are as due" : wrong + " answers are not as due");
    if (wrong != 0) System.exit(1);
  }

  // ---- trees

  static void type(TreeDiffer d, String text) {
    d.clearText();
    add(d, text);
  }

  static void add(TreeDiffer d, String text) {
    for (char c : text.toCharArray()) d.append(c);
  }

  static int put(TreeDiffer d, int tree, String text) {
    type(d, text);
    return d.read(tree);
  }

  static TreeDiffer two(String first, String second) {
    TreeDiffer d = new TreeDiffer();
    put(d, 0, first);
    put(d, 1, second);
    return d;
  }

  static TreeDiffer two(int h, int p, String first, String second) {
    TreeDiffer d = two(first, second);
    d.setMatching(h, p);
    return d;
  }

  static String star(int leaves) {
    return "a(b" + " b".repeat(leaves - 1) + ")";
  }

  static String chain(int nodes) {
    return "a" + "(a".repeat(nodes - 1) + ")".repeat(nodes - 1);
  }

  // ---- what is shown

  static String shown(TreeDiffer d, int tree) {
    int length = d.print(tree);
    StringBuilder b = new StringBuilder();
    for (int i = 0; i < length; i++) b.append((char) d.printed(i));
    return b.toString();
  }

  /**
   * The pairs with their phases: "0-2/1" says that 0 and 2 became partners in phase 1. A "!" says
   * that tree 1 tells another partner.
   */
  static String partners(TreeDiffer d) {
    StringBuilder b = new StringBuilder();
    for (int x = 0; x < d.nodes(0); x++) {
      int y = d.partner(0, x);
      if (y == NONE) continue;
      b.append(x).append('-').append(y).append('/').append(d.phase(x));
      b.append(d.partner(1, y) == x ? " " : "! ");
    }
    return b.toString().trim();
  }

  /**
   * The script in a short form: "I101 0 2 f3" inserts 101 below 0 at place 2 with label f, value 3.
   * A "!" says that a step tells something that its kind does not have.
   */
  static String script(TreeDiffer d) {
    StringBuilder b = new StringBuilder();
    for (int s = 0; s < d.steps(); s++) {
      if (s > 0) b.append(", ");
      int kind = d.step(s, 0);
      b.append("UIMD".charAt(kind)).append(d.step(s, 1));
      boolean hasPlace = kind == INSERT || kind == MOVE;
      if (hasPlace) b.append(' ').append(d.step(s, 2)).append(' ').append(d.step(s, 3));
      if (kind == INSERT) b.append(' ').append((char) ('a' + d.step(s, 4))).append(d.step(s, 5));
      if (kind == UPDATE) b.append(' ').append(d.step(s, 5));
      if (!hasPlace && (d.step(s, 2) != NONE || d.step(s, 3) != NONE)) b.append('!');
      if (kind != INSERT && d.step(s, 4) != NONE) b.append('!');
      if ((kind == MOVE || kind == DELETE) && d.step(s, 5) != NONE) b.append('!');
    }
    return b.toString();
  }

  static void stepOnToTheEnd(TreeDiffer d) {
    for (int i = d.steps(); i > 0; i--) d.stepOn();
  }
}
