import java.util.ArrayList;
import java.util.Collections;
import java.util.Comparator;
import java.util.HashMap;
import java.util.List;
import java.util.Map;

/**
 * The document once more, as plainly as it can be said with objects, lists and recursion. It
 * shares no way of working with TreeDiffer, so that a slip in one of them shows as a difference.
 */
final class Model {
  static final int BAD_INDEX = -11, BAD_VALUE = -12, NOT_POSSIBLE = -13, FULL = -14, NONE = -15;

  static final class Node {
    int number = -1;
    int label;
    int value;
    Node parent;
    final List<Node> children = new ArrayList<>();
    Node partner;
    int phase = NONE;
    boolean marked;

    int height() {
      int most = 0;
      for (Node c : children) most = Math.max(most, c.height());
      return most + 1;
    }

    List<Node> descendants() {
      List<Node> all = new ArrayList<>();
      for (Node c : children) {
        all.add(c);
        all.addAll(c.descendants());
      }
      return all;
    }

    boolean isEqual(Node o) {
      if (label != o.label || value != o.value || children.size() != o.children.size()) return false;
      for (int i = 0; i < children.size(); i++) {
        if (!children.get(i).isEqual(o.children.get(i))) return false;
      }
      return true;
    }

    int place() {
      return parent.children.indexOf(this);
    }
  }

  static final class Fault extends RuntimeException {
    private static final long serialVersionUID = 1L;
    final int position;
    final int depth;

    Fault(int position, int depth) {
      this.position = position;
      this.depth = depth;
    }
  }

  record Step(int kind, int node, int under, int place, int label, int value) {
    int tell(int what) {
      return new int[] {kind, node, under, place, label, value}[what];
    }
  }

  private String text = "";
  private String out = "";
  private String[] trees = {"a", "a"};
  private int h = 2;
  private int p = 50;
  private int done = 0;
  private final Object[][] slots = new Object[2][];

  // What follows from the trees, h and p; null if it must be found anew.
  private Node[] tops;
  private List<Step> script;

  // ---- reading

  private static final class Reader {
    final String text;
    int at = 0;
    int depth = 0;
    int count = 0;

    Reader(String text) {
      this.text = text;
    }

    int peek() {
      return at < text.length() ? text.charAt(at) : -1;
    }

    Fault fault() {
      return new Fault(at, depth);
    }

    Node tree() {
      if (peek() < 'a' || peek() > 'h' || count == 24) throw fault();
      Node node = new Node();
      node.number = count++;
      node.label = peek() - 'a';
      at++;
      if (peek() == '0') {
        at++;
      } else {
        for (int digits = 0; digits < 2 && peek() >= '0' && peek() <= '9'; digits++) {
          node.value = node.value * 10 + peek() - '0';
          at++;
        }
      }
      if (peek() == '(') {
        at++;
        depth++;
        while (true) {
          Node child = tree();
          child.parent = node;
          node.children.add(child);
          if (peek() == ' ') {
            at++;
          } else if (peek() == ')') {
            at++;
            depth--;
            break;
          } else {
            throw fault();
          }
        }
      }
      return node;
    }
  }

  private static Node parse(String text) {
    Reader r = new Reader(text);
    Node root = r.tree();
    if (r.at != text.length()) throw r.fault();
    Node top = new Node();
    top.children.add(root);
    root.parent = top;
    return top;
  }

  private Fault fault() {
    try {
      parse(text);
      return null;
    } catch (Fault f) {
      return f;
    }
  }

  private static String write(Node top) {
    StringBuilder b = new StringBuilder();
    for (Node c : top.children) {
      if (b.length() > 0) b.append(' ');
      b.append((char) ('a' + c.label));
      if (c.value != 0) b.append(c.value);
      if (!c.children.isEmpty()) b.append('(').append(write(c)).append(')');
    }
    return b.toString();
  }

  // ---- matching

  private void changed() {
    tops = null;
    script = null;
    done = 0;
  }

  private Node[] matched() {
    if (tops == null) {
      tops = new Node[] {parse(trees[0]), parse(trees[1])};
      match(tops[0], tops[1]);
    }
    return tops;
  }

  private static void join(Node x, Node y, int phase) {
    if (x.partner != null || y.partner != null) throw new IllegalStateException("two partners");
    if (x.label != y.label) throw new IllegalStateException("two labels");
    x.partner = y;
    y.partner = x;
    x.phase = phase;
    y.phase = phase;
  }

  private static int kinship(Node x, Node y, Node topX, Node topY) {
    int k = 0;
    while (x.parent != topX && y.parent != topY && x.parent.label == y.parent.label) {
      k++;
      x = x.parent;
      y = y.parent;
    }
    return k;
  }

  private static int common(Node x, Node y) {
    List<Node> below = y.descendants();
    int c = 0;
    for (Node d : x.descendants()) {
      if (d.partner != null && below.contains(d.partner)) c++;
    }
    return c;
  }

  private static List<Node> postorder(Node node) {
    List<Node> all = new ArrayList<>();
    for (Node c : node.children) {
      all.addAll(postorder(c));
      all.add(c);
    }
    return all;
  }

  private void match(Node top0, Node top1) {
    List<Node> xs = top0.descendants();
    List<Node> ys = top1.descendants();
    for (int height = 24; height >= h; height--) {
      while (true) {
        List<Node[]> candidates = new ArrayList<>();
        for (Node x : xs) {
          for (Node y : ys) {
            if (x.height() == height && y.height() == height && x.isEqual(y)
                && x.partner == null && y.partner == null) {
              candidates.add(new Node[] {x, y});
            }
          }
        }
        if (candidates.isEmpty()) break;
        Comparator<Node[]> order = Comparator.comparing((Node[] c) -> -kinship(c[0], c[1], top0, top1));
        order = order.thenComparing(c -> Math.abs(c[0].place() - c[1].place()));
        order = order.thenComparing(c -> c[0].number);
        order = order.thenComparing(c -> c[1].number);
        Node[] taken = Collections.min(candidates, order);
        List<Node> belowX = taken[0].descendants();
        List<Node> belowY = taken[1].descendants();
        join(taken[0], taken[1], 1);
        for (int i = 0; i < belowX.size(); i++) join(belowX.get(i), belowY.get(i), 1);
      }
    }
    for (Node x : postorder(top0)) {
      if (x.partner != null || x.children.isEmpty()) continue;
      Node best = null;
      for (Node y : ys) {
        if (y.partner != null || y.children.isEmpty() || y.label != x.label || common(x, y) == 0) continue;
        // Both likenesses over the product of the sums.
        if (best == null || 2 * common(x, y) * sum(x, best) > 2 * common(x, best) * sum(x, y)) best = y;
      }
      if (best != null && 100 * 2 * common(x, best) >= p * sum(x, best)) join(x, best, 2);
    }
    Node x = top0.children.get(0);
    Node y = top1.children.get(0);
    if (x.partner == null && y.partner == null && x.label == y.label) join(x, y, 3);
  }

  private static int sum(Node x, Node y) {
    return x.descendants().size() + y.descendants().size();
  }

  // ---- the script

  /** A matched pair of trees of its own, so that the copy may be changed. */
  private final class Maker {
    final Node top0 = parse(trees[0]);
    final Node top1 = parse(trees[1]);
    final List<Step> made = new ArrayList<>();

    List<Step> make() {
      match(top0, top1);
      List<Node> old = postorder(top0);
      top0.partner = top1;
      top1.partner = top0;
      putInOrder(top1);
      List<Node> level = new ArrayList<>(top1.children);
      while (!level.isEmpty()) {
        List<Node> next = new ArrayList<>();
        for (Node y : level) {
          treat(y);
          next.addAll(y.children);
        }
        level = next;
      }
      for (Node x : old) {
        if (x.partner == null) {
          if (!x.children.isEmpty()) throw new IllegalStateException("a deleted node has children");
          x.parent.children.remove(x);
          made.add(new Step(3, x.number, NONE, NONE, NONE, NONE));
        }
      }
      if (!write(top0).equals(write(top1))) throw new IllegalStateException("the script fails");
      return made;
    }

    void treat(Node y) {
      if (y.partner == null) {
        Node n = new Node();
        n.number = 100 + y.number;
        n.label = y.label;
        n.value = y.value;
        n.partner = y;
        y.partner = n;
        int place = placeFor(y);
        n.parent = y.parent.partner;
        n.parent.children.add(place, n);
        n.marked = true;
        y.marked = true;
        made.add(new Step(1, n.number, n.parent.number, place, n.label, n.value));
      } else {
        if (y.partner.value != y.value) {
          y.partner.value = y.value;
          made.add(new Step(0, y.partner.number, NONE, NONE, NONE, y.value));
        }
        if (y.partner.parent != y.parent.partner) move(y);
      }
      putInOrder(y);
    }

    void move(Node y) {
      Node x = y.partner;
      x.parent.children.remove(x);
      int place = placeFor(y);
      x.parent = y.parent.partner;
      x.parent.children.add(place, x);
      x.marked = true;
      y.marked = true;
      made.add(new Step(2, x.number, x.parent.number, place, NONE, NONE));
    }

    int placeFor(Node y) {
      Node v = null;
      for (Node c : y.parent.children) {
        if (c == y) break;
        if (c.marked) v = c;
      }
      if (v == null) return 0;
      if (v.partner.parent != y.parent.partner) throw new IllegalStateException("a marked node strays");
      return v.partner.place() + 1;
    }

    void putInOrder(Node y) {
      List<Node> s = new ArrayList<>();
      for (Node c : y.children) {
        if (c.partner != null && c.partner.parent == y.partner) s.add(c);
      }
      for (Node c : best(s, 0, -1, new HashMap<>())) {
        c.marked = true;
        c.partner.marked = true;
      }
      for (Node c : s) {
        if (!c.marked) move(c);
      }
    }

    /** The longest sequence of nodes of s from i on behind the place last, the first of several. */
    List<Node> best(List<Node> s, int i, int last, Map<Integer, List<Node>> known) {
      if (i == s.size()) return new ArrayList<>();
      int key = i * 1000 + last;
      if (known.containsKey(key)) return known.get(key);
      List<Node> without = best(s, i + 1, last, known);
      List<Node> result = without;
      if (s.get(i).partner.place() > last) {
        List<Node> with = new ArrayList<>();
        with.add(s.get(i));
        with.addAll(best(s, i + 1, s.get(i).partner.place(), known));
        if (with.size() > without.size() || with.size() == without.size() && isBefore(with, without)) result = with;
      }
      known.put(key, result);
      return result;
    }

    boolean isBefore(List<Node> a, List<Node> b) {
      for (int i = 0; i < a.size(); i++) {
        if (a.get(i).number != b.get(i).number) return a.get(i).number < b.get(i).number;
      }
      return false;
    }
  }

  private List<Step> script() {
    if (script == null) script = new Maker().make();
    return script;
  }

  /** The working tree, made anew by all the steps that are carried out. */
  private Node working() {
    Node top = parse(trees[0]);
    for (int i = 0; i < done; i++) {
      Step s = script().get(i);
      Node n = find(top, s.node());
      if (s.kind() == 0) {
        n.value = s.value();
        continue;
      }
      if (s.kind() == 1) {
        n = new Node();
        n.number = s.node();
        n.label = s.label();
        n.value = s.value();
      } else {
        n.parent.children.remove(n);
      }
      if (s.kind() != 3) {
        n.parent = find(top, s.under());
        n.parent.children.add(s.place(), n);
      }
    }
    return top;
  }

  private static Node find(Node top, int number) {
    if (number == -1) return top;
    for (Node n : top.descendants()) {
      if (n.number == number) return n;
    }
    return null;
  }

  // ---- the distance

  private static int distance(List<Node> f, List<Node> g, Map<String, Integer> known) {
    int fs = 0;
    int gs = 0;
    StringBuilder key = new StringBuilder();
    for (Node n : f) {
      fs += 1 + n.descendants().size();
      key.append(n.number).append(' ');
    }
    key.append('/');
    for (Node n : g) {
      gs += 1 + n.descendants().size();
      key.append(n.number).append(' ');
    }
    if (f.isEmpty() || g.isEmpty()) return fs + gs;
    Integer old = known.get(key.toString());
    if (old != null) return old;
    Node v = f.get(f.size() - 1);
    Node w = g.get(g.size() - 1);
    List<Node> restF = f.subList(0, f.size() - 1);
    List<Node> restG = g.subList(0, g.size() - 1);
    int cost = v.label == w.label && v.value == w.value ? 0 : 1;
    int best = distance(joined(restF, v.children), g, known) + 1;
    best = Math.min(best, distance(f, joined(restG, w.children), known) + 1);
    best = Math.min(best, distance(restF, restG, known) + distance(v.children, w.children, known) + cost);
    known.put(key.toString(), best);
    return best;
  }

  private static List<Node> joined(List<Node> a, List<Node> b) {
    List<Node> all = new ArrayList<>(a);
    all.addAll(b);
    return all;
  }

  // ---- the face

  int append(int letter) {
    if (letter < 0 || letter > 127) return BAD_VALUE;
    if (text.length() == 100) return FULL;
    text += (char) letter;
    return text.length();
  }

  int clearText() {
    int n = text.length();
    text = "";
    return n;
  }

  int faultPosition() {
    Fault f = fault();
    return f == null ? NONE : f.position;
  }

  int faultDepth() {
    Fault f = fault();
    return f == null ? NONE : f.depth;
  }

  int read(int tree) {
    if (tree < 0 || tree > 1) return BAD_INDEX;
    if (fault() != null) return NOT_POSSIBLE;
    trees[tree] = text;
    changed();
    return nodes(tree);
  }

  int exchange() {
    trees = new String[] {trees[1], trees[0]};
    changed();
    return nodes(0);
  }

  private Node get(int tree, int node) {
    if (tree < 0 || tree > 1 || node < 0) return null;
    return find(matched()[tree], node);
  }

  int nodes(int tree) {
    if (tree < 0 || tree > 1) return BAD_INDEX;
    return matched()[tree].descendants().size();
  }

  int node(int tree, int node, int what) {
    Node n = get(tree, node);
    if (n == null) return BAD_INDEX;
    if (what < 0 || what > 5) return BAD_VALUE;
    return new int[] {n.label, n.value, n.parent.number, n.children.size(), n.height(), n.descendants().size()}[what];
  }

  int child(int tree, int node, int place) {
    Node n = get(tree, node);
    if (n == null) return BAD_INDEX;
    return place < 0 || place >= n.children.size() ? NONE : n.children.get(place).number;
  }

  int equal(int node, int other) {
    Node x = get(0, node);
    Node y = get(1, other);
    if (x == null || y == null) return BAD_INDEX;
    return x.isEqual(y) ? 1 : 0;
  }

  int setMatching(int height, int percent) {
    if (height < 1 || height > 9 || percent < 0 || percent > 100) return BAD_VALUE;
    int old = 1000 * h + p;
    h = height;
    p = percent;
    changed();
    return old;
  }

  int pairs() {
    int n = 0;
    for (Node x : matched()[0].descendants()) {
      if (x.partner != null) n++;
    }
    return n;
  }

  int partner(int tree, int node) {
    Node n = get(tree, node);
    if (n == null) return BAD_INDEX;
    return n.partner == null ? NONE : n.partner.number;
  }

  int phase(int node) {
    Node n = get(0, node);
    return n == null ? BAD_INDEX : n.phase;
  }

  int likeness(int node, int other) {
    Node x = get(0, node);
    Node y = get(1, other);
    if (x == null || y == null) return BAD_INDEX;
    return sum(x, y) == 0 ? 0 : 100 * 2 * common(x, y) / sum(x, y);
  }

  int steps() {
    return script().size();
  }

  int step(int step, int what) {
    if (step < 0 || step >= script().size()) return BAD_INDEX;
    return what < 0 || what > 5 ? BAD_VALUE : script().get(step).tell(what);
  }

  int count(int kind) {
    if (kind < 0 || kind > 3) return BAD_VALUE;
    int n = 0;
    for (Step s : script()) {
      if (s.kind() == kind) n++;
    }
    return n;
  }

  int distance() {
    return distance(matched()[0].children, matched()[1].children, new HashMap<>());
  }

  int start() {
    int n = done;
    done = 0;
    return n;
  }

  int stepOn() {
    return done == script().size() ? NOT_POSSIBLE : ++done;
  }

  int stepBack() {
    return done == 0 ? NOT_POSSIBLE : --done;
  }

  int workingChild(int node, int place) {
    Node n = find(working(), node);
    if (n == null) return BAD_INDEX;
    return place < 0 || place >= n.children.size() ? NONE : n.children.get(place).number;
  }

  int workingNode(int node, int what) {
    Node n = node == -1 ? null : find(working(), node);
    if (n == null) return BAD_INDEX;
    return what < 0 || what > 2 ? BAD_VALUE : new int[] {n.label, n.value, n.parent.number}[what];
  }

  int print(int tree) {
    if (tree < 0 || tree > 2) return BAD_INDEX;
    out = write(tree == 2 ? working() : matched()[tree]);
    return out.length();
  }

  int printed(int index) {
    return index < 0 || index >= out.length() ? BAD_INDEX : out.charAt(index);
  }

  int save(int slot) {
    if (slot < 0 || slot > 1) return BAD_INDEX;
    slots[slot] = new Object[] {trees[0], trees[1], h, p};
    return nodes(0);
  }

  int restore(int slot) {
    if (slot < 0 || slot > 1) return BAD_INDEX;
    if (slots[slot] == null) return NOT_POSSIBLE;
    trees = new String[] {(String) slots[slot][0], (String) slots[slot][1]};
    h = (Integer) slots[slot][2];
    p = (Integer) slots[slot][3];
    changed();
    return nodes(0);
  }

  long checksum() {
    List<Integer> values = new ArrayList<>(List.of(nodes(0), nodes(1)));
    for (int x = 0; x < nodes(0); x++) {
      values.add(partner(0, x));
      values.add(phase(x));
    }
    values.add(steps());
    for (int s = 0; s < steps(); s++) {
      for (int what = 0; what <= 5; what++) values.add(step(s, what));
    }
    values.add(distance());
    String printed = write(working());
    values.add(printed.length());
    for (char c : printed.toCharArray()) values.add((int) c);
    long sum = 71;
    for (int v : values) sum = 31 * sum + v;
    return sum;
  }
}
