import java.util.Random;

/** Random runs of up to 512 calls, each answered by TreeDiffer and by the model. */
public final class RandomRunsTest {
  private static final int RUNS = 1500;
  private static int wrong = 0;

  private final Random random;
  private final TreeDiffer differ = new TreeDiffer();
  private final Model model = new Model();
  private final StringBuilder history = new StringBuilder();
  private final int labels;
  private final int values;
  private int calls = 0;
  private boolean failed = false;

  private RandomRunsTest(long seed) {
    random = new Random(seed);
    labels = 1 + random.nextInt(random.nextBoolean() ? 3 : 8);
    values = random.nextInt(3) == 0 ? 1 : 1 + random.nextInt(random.nextBoolean() ? 3 : 100);
  }

  public static void main(String[] args) {
    for (int seed = 0; seed < RUNS && wrong < 5; seed++) new RandomRunsTest(seed).run(seed);
    System.out.println(wrong == 0 ? RUNS + " random runs agree" : wrong + " runs differ");
    if (wrong != 0) System.exit(1);
  }

  private void run(int seed) {
    String last = "a";
    while (calls < 512 && !failed) {
      int choice = random.nextInt(12);
      if (choice == 0) {
        last = randomTree();
        readIn(last, random.nextInt(2));
      } else if (choice == 1) {
        last = mutated(last);
        readIn(last, random.nextInt(2));
      } else if (choice == 2) {
        writeNoise(last);
      } else {
        for (int i = 0; i < 10; i++) ask(random.nextInt(26));
      }
    }
    if (failed) {
      wrong++;
      System.out.println("seed " + seed + ": " + history);
    }
  }

  /** A random tree; some are deep, some are flat. */
  private String randomTree() {
    int size = 1 + random.nextInt(24);
    int bias = random.nextInt(3);
    int[] parent = new int[size];
    for (int i = 1; i < size; i++) {
      parent[i] = bias == 0 ? random.nextInt(i) : bias == 1 ? i - 1 - random.nextInt(Math.min(i, 3)) : random.nextInt(Math.min(i, 3));
    }
    return write(parent, 0);
  }

  private String write(int[] parent, int node) {
    StringBuilder b = new StringBuilder();
    b.append((char) ('a' + random.nextInt(labels)));
    int value = random.nextInt(values);
    if (value > 0 || random.nextInt(9) == 0) b.append(value);
    boolean first = true;
    for (int i = node + 1; i < parent.length; i++) {
      if (parent[i] == node) {
        b.append(first ? '(' : ' ').append(write(parent, i));
        first = false;
      }
    }
    return first ? b.toString() : b.append(')').toString();
  }

  /** A tree with a few parts exchanged, left out, doubled or renamed. */
  private String mutated(String tree) {
    String result = tree;
    for (int i = random.nextInt(4); i >= 0; i--) {
      String next = mutatedOnce(result);
      if (next.length() <= 100) result = next;
    }
    return result;
  }

  private String mutatedOnce(String tree) {
    int from = labelAt(tree, random.nextInt(tree.length()));
    int end = endOf(tree, from);
    String part = tree.substring(from, end);
    switch (random.nextInt(5)) {
      case 0:
        return tree.substring(0, from) + (char) ('a' + random.nextInt(labels)) + tree.substring(from + 1);
      case 1:
        return tree.substring(0, end) + (from == 0 ? "" : " " + part) + tree.substring(end);
      case 2:
        return tree.substring(0, from) + (char) ('a' + random.nextInt(labels)) + "(" + part + ")" + tree.substring(end);
      case 3: {
        int other = labelAt(tree, random.nextInt(tree.length()));
        int otherEnd = endOf(tree, other);
        if (other < end) return tree;
        return tree.substring(0, from) + tree.substring(other, otherEnd) + tree.substring(end, other) + part + tree.substring(otherEnd);
      }
      default: {
        int rest = from > 0 && tree.charAt(from - 1) == ' ' ? from - 1 : from;
        String cut = tree.substring(0, rest) + tree.substring(end);
        return cut.replace("()", "").replace("( ", "(").isEmpty() ? tree : cut.replace("()", "").replace("( ", "(");
      }
    }
  }

  private static int labelAt(String tree, int at) {
    int i = at;
    while (i > 0 && (tree.charAt(i) < 'a' || tree.charAt(i) > 'h')) i--;
    return i;
  }

  private static int endOf(String tree, int from) {
    int depth = 0;
    for (int i = from; i < tree.length(); i++) {
      char c = tree.charAt(i);
      if (depth == 0 && i > from && (c == ' ' || c == ')')) return i;
      if (c == '(') depth++;
      if (c == ')') depth--;
    }
    return tree.length();
  }

  private void readIn(String tree, int into) {
    due("clearText()", differ.clearText(), model.clearText());
    for (char c : tree.toCharArray()) append(c);
    due("faultPosition()", differ.faultPosition(), model.faultPosition());
    due("faultDepth()", differ.faultDepth(), model.faultDepth());
    due("read(" + into + ")", differ.read(into), model.read(into));
    if (random.nextBoolean()) ask(25);
  }

  private void writeNoise(String tree) {
    String signs = "abchi()( )0123 9A`/:";
    if (random.nextBoolean()) due("clearText()", differ.clearText(), model.clearText());
    if (random.nextBoolean()) {
      for (char c : tree.substring(0, random.nextInt(tree.length() + 1)).toCharArray()) append(c);
    }
    for (int i = random.nextInt(6); i >= 0; i--) {
      append(signs.charAt(random.nextInt(signs.length())));
      due("faultPosition()", differ.faultPosition(), model.faultPosition());
      due("faultDepth()", differ.faultDepth(), model.faultDepth());
    }
    int into = random.nextInt(4) - 1;
    due("read(" + into + ")", differ.read(into), model.read(into));
  }

  private void append(int letter) {
    due("append(" + letter + ")", differ.append(letter), model.append(letter));
  }

  private int tree() {
    return random.nextInt(20) == 0 ? random.nextInt(7) - 3 : random.nextInt(2);
  }

  private int number() {
    if (random.nextInt(25) == 0) return random.nextBoolean() ? Integer.MIN_VALUE : Integer.MAX_VALUE;
    return random.nextInt(random.nextInt(3) == 0 ? 27 : 8) - 1;
  }

  private int worker() {
    return random.nextInt(3) == 0 ? number() + 100 : number();
  }

  private int slot() {
    return random.nextInt(8) == 0 ? random.nextInt(7) - 3 : random.nextInt(2);
  }

  private void ask(int which) {
    int a = number();
    int b = number();
    int t = tree();
    int w = worker();
    int s = slot();
    int what = random.nextInt(9) - 1;
    switch (which) {
      case 0: due("nodes(" + t + ")", differ.nodes(t), model.nodes(t)); break;
      case 1: due("node(" + t + ", " + a + ", " + what + ")", differ.node(t, a, what), model.node(t, a, what)); break;
      case 2: due("child(" + t + ", " + a + ", " + b + ")", differ.child(t, a, b), model.child(t, a, b)); break;
      case 3: due("equal(" + a + ", " + b + ")", differ.equal(a, b), model.equal(a, b)); break;
      case 4: {
        int h = random.nextInt(10) == 0 ? random.nextInt(12) : 1 + random.nextInt(3);
        int p = random.nextInt(10) == 0 ? random.nextInt(104) - 2 : random.nextInt(101);
        due("setMatching(" + h + ", " + p + ")", differ.setMatching(h, p), model.setMatching(h, p));
        break;
      }
      case 5: due("pairs()", differ.pairs(), model.pairs()); break;
      case 6: due("partner(" + t + ", " + a + ")", differ.partner(t, a), model.partner(t, a)); break;
      case 7: due("phase(" + a + ")", differ.phase(a), model.phase(a)); break;
      case 8: due("likeness(" + a + ", " + b + ")", differ.likeness(a, b), model.likeness(a, b)); break;
      case 9: due("steps()", differ.steps(), model.steps()); break;
      case 10: due("step(" + a + ", " + what + ")", differ.step(a, what), model.step(a, what)); break;
      case 11: due("count(" + what + ")", differ.count(what), model.count(what)); break;
      case 12: due("distance()", differ.distance(), model.distance()); break;
      case 13: if (random.nextInt(4) == 0) due("start()", differ.start(), model.start()); break;
      case 14: case 15: case 16: due("stepOn()", differ.stepOn(), model.stepOn()); break;
      case 17: due("stepBack()", differ.stepBack(), model.stepBack()); break;
      case 18: due("workingChild(" + w + ", " + b + ")", differ.workingChild(w, b), model.workingChild(w, b)); break;
      case 19: due("workingNode(" + w + ", " + what + ")", differ.workingNode(w, what), model.workingNode(w, what)); break;
      case 20: {
        int of = random.nextInt(6) - 1;
        due("print(" + of + ")", differ.print(of), model.print(of));
        break;
      }
      case 21: {
        int at = random.nextInt(40) - 2;
        due("printed(" + at + ")", differ.printed(at), model.printed(at));
        break;
      }
      case 22: due("save(" + s + ")", differ.save(s), model.save(s)); break;
      case 23: if (random.nextInt(4) == 0) due("restore(" + s + ")", differ.restore(s), model.restore(s)); break;
      case 24: if (random.nextInt(4) == 0) due("exchange()", differ.exchange(), model.exchange()); break;
      default: due("checksum()", differ.checksum(), model.checksum()); break;
    }
  }

  private void due(String call, long got, long want) {
    if (failed || calls >= 512) return;
    calls++;
    history.append(call).append(' ');
    if (got != want) {
      failed = true;
      history.append("answered ").append(got).append(", due is ").append(want);
    }
  }
}
