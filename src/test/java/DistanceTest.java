import java.util.ArrayList;
import java.util.Collections;
import java.util.HashSet;
import java.util.List;
import java.util.Random;
import java.util.Set;

/** Promise 20 by its own words: the changes are tried out, breadth first, on small trees. */
public final class DistanceTest extends TestKit {
  private static final int PAIRS = 300;

  public static void main(String[] args) {
    Random random = new Random(20);
    for (int i = 0; i < PAIRS; i++) {
      String first = randomTree(random, 1 + random.nextInt(5));
      String second = randomTree(random, 1 + random.nextInt(5));
      int want = fewestChanges(first, second);
      due(20, "distance of " + first + " and " + second, two(first, second).distance(), want);
    }
    end();
  }

  private static final String[] CONTENTS = {"a", "a1", "b"};

  private static String randomTree(Random random, int size) {
    StringBuilder b = new StringBuilder(CONTENTS[random.nextInt(CONTENTS.length)]);
    int rest = size - 1;
    String before = "(";
    while (rest > 0) {
      int part = 1 + random.nextInt(rest);
      b.append(before).append(randomTree(random, part));
      before = " ";
      rest -= part;
    }
    return size > 1 ? b.append(')').toString() : b.toString();
  }

  private static int size(String forest) {
    int n = 0;
    for (char c : forest.toCharArray()) {
      if (c >= 'a' && c <= 'h') n++;
    }
    return n;
  }

  /** Each change can be taken back by another one, so the search goes on from both ends. */
  private static int fewestChanges(String first, String second) {
    int room = Math.max(size(first), size(second)) + 1;
    Set<String> seenFromFirst = new HashSet<>(List.of(first));
    Set<String> seenFromSecond = new HashSet<>(List.of(second));
    Set<String> fromFirst = Set.of(first);
    Set<String> fromSecond = Set.of(second);
    int changes = 0;
    while (Collections.disjoint(fromFirst, fromSecond)) {
      if (fromFirst.size() <= fromSecond.size()) {
        fromFirst = oneChangeOn(fromFirst, seenFromFirst, room);
      } else {
        fromSecond = oneChangeOn(fromSecond, seenFromSecond, room);
      }
      changes++;
    }
    return changes;
  }

  private static Set<String> oneChangeOn(Set<String> border, Set<String> seen, int room) {
    Set<String> next = new HashSet<>();
    for (String forest : border) {
      for (String changed : changes(split(forest))) {
        if (size(changed) <= room && seen.add(changed)) next.add(changed);
      }
    }
    return next;
  }

  /** All forests that one change makes of a forest, whose trees are given. */
  private static List<String> changes(List<String> trees) {
    List<String> all = new ArrayList<>();
    for (int i = 0; i < trees.size(); i++) {
      String content = content(trees.get(i));
      List<String> below = split(below(trees.get(i)));
      all.add(with(trees, i, i + 1, String.join(" ", below)));
      for (String other : CONTENTS) all.add(with(trees, i, i + 1, tree(other, below)));
      for (String changed : changes(below)) all.add(with(trees, i, i + 1, tree(content, split(changed))));
    }
    for (int from = 0; from <= trees.size(); from++) {
      for (int to = from; to <= trees.size(); to++) {
        for (String content : CONTENTS) all.add(with(trees, from, to, tree(content, trees.subList(from, to))));
      }
    }
    return all;
  }

  private static String with(List<String> trees, int from, int to, String part) {
    List<String> all = new ArrayList<>(trees.subList(0, from));
    if (!part.isEmpty()) all.add(part);
    all.addAll(trees.subList(to, trees.size()));
    return String.join(" ", all);
  }

  private static String tree(String content, List<String> below) {
    return below.isEmpty() ? content : content + "(" + String.join(" ", below) + ")";
  }

  private static String content(String tree) {
    int at = tree.indexOf('(');
    return at < 0 ? tree : tree.substring(0, at);
  }

  private static String below(String tree) {
    int at = tree.indexOf('(');
    return at < 0 ? "" : tree.substring(at + 1, tree.length() - 1);
  }

  private static List<String> split(String forest) {
    List<String> trees = new ArrayList<>();
    int depth = 0;
    int from = 0;
    for (int i = 0; i <= forest.length(); i++) {
      char c = i < forest.length() ? forest.charAt(i) : ' ';
      if (c == '(') depth++;
      if (c == ')') depth--;
      if (c == ' ' && depth == 0) {
        if (i > from) trees.add(forest.substring(from, i));
        from = i + 1;
      }
    }
    return trees;
  }
}
