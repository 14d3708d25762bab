import java.util.ArrayList;
import java.util.HashSet;
import java.util.List;
import java.util.Random;
import java.util.Set;

/** Promise 20 by its own words: the changes are tried out, breadth first, on small trees. */
public final class DistanceTest {
  private static int wrong = 0;

  public static void main(String[] args) {
    Random random = new Random(20);
    int pairs = 300;
    for (int i = 0; i < pairs; i++) {
      String first = randomTree(random, 1 + random.nextInt(5));
      String second = randomTree(random, 1 + random.nextInt(5));
      int want = fewestChanges(first, second);
      int got = distance(first, second);
      if (got != want) {
        wrong++;
        System.out.println("distance of " + first + " and " + second + " answered " + got + ", due is " + want);
      }
    }
    System.out.println(wrong == 0 ? pairs + " distances are as due" : wrong + " distances are not as due");
    if (wrong != 0) System.exit(1);
  }

  private static int distance(String first, String second) {
    TreeDiffer d = new TreeDiffer();
    for (char c : first.toCharArray()) d.append(c);
    d.read(0);
    d.clearText();
    for (char c : second.toCharArray()) d.append(c);
    d.read(1);
    return d.distance();
  }

  private static final String[] CONTENTS = {"a", "a1", "b"};

  private static String randomTree(Random random, int size) {
    StringBuilder b = new StringBuilder(CONTENTS[random.nextInt(CONTENTS.length)]);
    int rest = size - 1;
    String before = "(";
    while (rest > 0) {
      int part = 1 + random.nextInt(rest);
      b.append(before).append(randomTree(random, part));
      before = " ";
      rest -= part;
    }
    return size > 1 ? b.append(')').toString() : b.toString();
  }

  private static int size(String forest) {
    int n = 0;
    for (char c : forest.toCharArray()) {
      if (c >= 'a' && c <= 'h') n++;
    }
    return n;
  }

  private static int fewestChanges(String first, String second) {
    int room = Math.max(size(first), size(second)) + 1;
    Set<String> seen = new HashSet<>(List.of(first));
    List<String> border = List.of(first);
    for (int changes = 0; ; changes++) {
      if (border.contains(second)) return changes;
      List<String> next = new ArrayList<>();
      for (String forest : border) {
        for (String changed : changes(split(forest))) {
          if (size(changed) <= room && seen.add(changed)) next.add(changed);
        }
      }
      border = next;
    }
  }

  /** All forests that one change makes of a forest, whose trees are given. */
  private static List<String> changes(List<String> trees) {
    List<String> all = new ArrayList<>();
    for (int i = 0; i < trees.size(); i++) {
      String content = content(trees.get(i));
      List<String> below = split(below(trees.get(i)));
      all.add(with(trees, i, i + 1, String.join(" ", below)));
      for (String other : CONTENTS) all.add(with(trees, i, i + 1, tree(other, below)));
      for (String changed : changes(below)) all.add(with(trees, i, i + 1, tree(content, split(changed))));
    }
    for (int from = 0; from <= trees.size(); from++) {
      for (int to = from; to <= trees.size(); to++) {
        for (String content : CONTENTS) all.add(with(trees, from, to, tree(content, trees.subList(from, to))));
      }
    }
    return all;
  }

  private static String with(List<String> trees, int from, int to, String part) {
    List<String> all = new ArrayList<>(trees.subList(0, from));
    if (!part.isEmpty()) all.add(part);
    all.addAll(trees.subList(to, trees.size()));
    return String.join(" ", all);
  }

  private static String tree(String content, List<String> below) {
    return below.isEmpty() ? content : content + "(" + String.join(" ", below) + ")";
  }

  private static String content(String tree) {
    int at = tree.indexOf('(');
    return at < 0 ? tree : tree.substring(0, at);
  }

  private static String below(String tree) {
    int at = tree.indexOf('(');
    return at < 0 ? "" : tree.substring(at + 1, tree.length() - 1);
  }

  private static List<String> split(String forest) {
    List<String> trees = new ArrayList<>();
    int depth = 0;
    int from = 0;
    for (int i = 0; i <= forest.length(); i++) {
      char c = i < forest.length() ? forest.charAt(i) : ' ';
      if (c == '(') depth++;
      if (c == ')') depth--;
      if (c == ' ' && depth == 0) {
        if (i > from) trees.add(forest.substring(from, i));
        from = i + 1;
      }
    }
    return trees;
  }
}
