/** A differ of syntax trees; README.md says how it is used. */
public final class TreeDiffer {
  public static final int BAD_INDEX = -11;
  public static final int BAD_VALUE = -12;
  public static final int NOT_POSSIBLE = -13;
  public static final int FULL = -14;
  public static final int NONE = -15;
  public static final int UPDATE = 0, INSERT = 1, MOVE = 2, DELETE = 3;

  private static final int MOST_NODES = 24;
  private static final int MOST_BYTES = 100;
  private static final int MOST_HEIGHT = 9;
  private static final int MOST_PERCENT = 100;
  private static final int SLOTS = 2;

  /* A node that takes part in a script has a room: those of tree 0 the rooms 0 to 23,
     inserted ones the rooms from 24 on, and the node -1 the last room. */
  private static final int TOP = 2 * MOST_NODES;
  private static final int ROOMS = TOP + 1;
  private static final int ABSENT = -1;
  private static final int FIRST_INSERTED = 100;

  /* A pair of nodes is updated and moved once at most, another node is inserted or
     deleted, so that no script comes near this length. */
  private static final int MOST_STEPS = 4 * MOST_NODES;

  /* A node has a label, two digits, two parentheses and a space at most. */
  private static final int MOST_PRINTED = 6 * TOP;

  private static final int UNKNOWN = -1;

  private final Text text;
  private final Setup setup;
  private final Setup[] saved;
  private final boolean[] isSaved;
  private final Matching matching;
  private final Script script;
  private final EditDistance editDistance;
  private final WorkTree work;
  private final WorkTree spare;
  private final Output output;
  private final Output spareOutput;
  private boolean isCompared;
  private int knownDistance;
  private int carriedOut;

  public TreeDiffer() {
    text = new Text();
    setup = new Setup();
    saved = new Setup[SLOTS];
    for (int slot = 0; slot < SLOTS; slot++) {
      saved[slot] = new Setup();
    }
    isSaved = new boolean[SLOTS];
    matching = new Matching();
    script = new Script();
    editDistance = new EditDistance();
    work = new WorkTree();
    spare = new WorkTree();
    output = new Output();
    spareOutput = new Output();
    isCompared = false;
    knownDistance = UNKNOWN;
    carriedOut = 0;
    work.load(setup.first);
  }

  // ---- texts

  public int append(int letter) {
    if (letter < 0 || letter > 127) {
      return BAD_VALUE;
    }
    return text.add(letter) ? text.length : FULL;
  }

  public int clearText() {
    int length = text.length;
    text.length = 0;
    return length;
  }

  public int faultPosition() {
    return text.findFault();
  }

  public int faultDepth() {
    return text.findFault() == NONE ? NONE : text.open;
  }

  public int read(int tree) {
    if (!isTree(tree)) {
      return BAD_INDEX;
    }
    if (text.findFault() != NONE) {
      return NOT_POSSIBLE;
    }
    Tree target = setup.treeOf(tree);
    target.copy(text.tree);
    target.complete();
    forgetAnswers();
    return target.nodes;
  }

  public int exchange() {
    setup.swapTrees();
    forgetAnswers();
    return setup.first.nodes;
  }

  // ---- trees

  public int nodes(int tree) {
    return isTree(tree) ? setup.treeOf(tree).nodes : BAD_INDEX;
  }

  public int node(int tree, int node, int what) {
    if (!isNode(tree, node)) {
      return BAD_INDEX;
    }
    Tree of = setup.treeOf(tree);
    switch (what) {
      case 0: return of.label[node];
      case 1: return of.value[node];
      case 2: return of.parent[node];
      case 3: return of.children[node];
      case 4: return of.height[node];
      case 5: return of.below[node];
      default: return BAD_VALUE;
    }
  }

  public int child(int tree, int node, int place) {
    if (!isNode(tree, node)) {
      return BAD_INDEX;
    }
    return setup.treeOf(tree).childAt(node, place);
  }

  public int equal(int node, int other) {
    if (!isNode(0, node) || !isNode(1, other)) {
      return BAD_INDEX;
    }
    return setup.areEqual(node, other) ? 1 : 0;
  }

  // ---- matching

  public int setMatching(int height, int percent) {
    if (height < 1 || height > MOST_HEIGHT || percent < 0 || percent > MOST_PERCENT) {
      return BAD_VALUE;
    }
    int previous = 1000 * setup.height + setup.percent;
    setup.height = height;
    setup.percent = percent;
    forgetAnswers();
    return previous;
  }

  public int pairs() {
    compare();
    return matching.pairs;
  }

  public int partner(int tree, int node) {
    if (!isNode(tree, node)) {
      return BAD_INDEX;
    }
    compare();
    return orNone(tree == 0 ? matching.partner[node] : matching.otherPartner[node]);
  }

  public int phase(int node) {
    if (!isNode(0, node)) {
      return BAD_INDEX;
    }
    compare();
    return orNone(matching.phase[node]);
  }

  public int likeness(int node, int other) {
    if (!isNode(0, node) || !isNode(1, other)) {
      return BAD_INDEX;
    }
    compare();
    int sum = setup.first.below[node] + setup.second.below[other];
    return sum == 0 ? 0 : 200 * matching.commonBelow(setup, node, other) / sum;
  }

  // ---- the script

  public int steps() {
    compare();
    return script.length;
  }

  public int step(int step, int what) {
    compare();
    if (step < 0 || step >= script.length) {
      return BAD_INDEX;
    }
    return script.all[step].tell(what);
  }

  public int count(int kind) {
    if (kind < UPDATE || kind > DELETE) {
      return BAD_VALUE;
    }
    compare();
    int found = 0;
    for (int i = 0; i < script.length; i++) {
      if (script.all[i].kind == kind) {
        found++;
      }
    }
    return found;
  }

  public int distance() {
    if (knownDistance == UNKNOWN) {
      knownDistance = editDistance.compute(setup);
    }
    return knownDistance;
  }

  // ---- the working tree

  public int start() {
    int before = carriedOut;
    rewind();
    return before;
  }

  public int stepOn() {
    compare();
    if (carriedOut < 0 || carriedOut >= script.length) {
      return NOT_POSSIBLE;
    }
    work.carryOut(script.all[carriedOut]);
    carriedOut++;
    return carriedOut;
  }

  public int stepBack() {
    compare();
    if (carriedOut < 1 || carriedOut > script.length) {
      return NOT_POSSIBLE;
    }
    carriedOut--;
    work.takeBack(script.all[carriedOut]);
    return carriedOut;
  }

  public int workingChild(int node, int place) {
    int room = node == -1 ? TOP : roomOf(node);
    if (room != TOP && !work.has(room)) {
      return BAD_INDEX;
    }
    int found = work.childAt(room, place);
    return found == ABSENT ? NONE : numberOf(found);
  }

  public int workingNode(int node, int what) {
    int room = roomOf(node);
    if (!work.has(room)) {
      return BAD_INDEX;
    }
    switch (what) {
      case 0: return work.label[room];
      case 1: return work.value[room];
      case 2: return numberOf(work.parent[room]);
      default: return BAD_VALUE;
    }
  }

  public int print(int tree) {
    if (tree == 2) {
      output.write(work);
      return output.length;
    }
    if (!isTree(tree)) {
      return BAD_INDEX;
    }
    spare.load(setup.treeOf(tree));
    output.write(spare);
    return output.length;
  }

  public int printed(int index) {
    return index < 0 || index >= output.length ? BAD_INDEX : output.bytes[index];
  }

  // ---- slots, checksum

  public int save(int slot) {
    if (!isSlot(slot)) {
      return BAD_INDEX;
    }
    saved[slot].copy(setup);
    isSaved[slot] = true;
    return setup.first.nodes;
  }

  public int restore(int slot) {
    if (!isSlot(slot)) {
      return BAD_INDEX;
    }
    if (!isSaved[slot]) {
      return NOT_POSSIBLE;
    }
    setup.copy(saved[slot]);
    forgetAnswers();
    return setup.first.nodes;
  }

  public long checksum() {
    compare();
    long sum = 71;
    sum = 31 * sum + setup.first.nodes;
    sum = 31 * sum + setup.second.nodes;
    for (int x = 0; x < setup.first.nodes; x++) {
      sum = 31 * sum + orNone(matching.partner[x]);
      sum = 31 * sum + orNone(matching.phase[x]);
    }
    sum = 31 * sum + script.length;
    for (int i = 0; i < script.length; i++) {
      for (int what = 0; what <= 5; what++) {
        sum = 31 * sum + script.all[i].tell(what);
      }
    }
    sum = 31 * sum + distance();
    spareOutput.write(work);
    sum = 31 * sum + spareOutput.length;
    for (int i = 0; i < spareOutput.length; i++) {
      sum = 31 * sum + spareOutput.bytes[i];
    }
    return sum;
  }

  // ---- what the methods share

  private static boolean isTree(int tree) {
    return tree == 0 || tree == 1;
  }

  private static boolean isSlot(int slot) {
    return slot >= 0 && slot < SLOTS;
  }

  private boolean isNode(int tree, int node) {
    return isTree(tree) && node >= 0 && node < setup.treeOf(tree).nodes;
  }

  private static int orNone(int found) {
    return found == ABSENT ? NONE : found;
  }

  private void compare() {
    if (!isCompared) {
      matching.find(setup);
      script.make(setup, matching);
      isCompared = true;
    }
  }

  private void forgetAnswers() {
    isCompared = false;
    knownDistance = UNKNOWN;
    rewind();
  }

  private void rewind() {
    work.load(setup.first);
    carriedOut = 0;
  }

  private static int roomOf(int number) {
    if (number >= 0 && number < MOST_NODES) {
      return number;
    }
    if (number >= FIRST_INSERTED && number < FIRST_INSERTED + MOST_NODES) {
      return roomOfInserted(number - FIRST_INSERTED);
    }
    return ABSENT;
  }

  private static int roomOfInserted(int partner) {
    return MOST_NODES + partner;
  }

  private static int numberOf(int room) {
    if (room == TOP) {
      return -1;
    }
    return room < MOST_NODES ? room : FIRST_INSERTED + room - MOST_NODES;
  }

  /** A tree whose nodes are numbered in preorder: those below a node come just after it. */
  private static final class Tree {
    int nodes;
    final int[] label = new int[MOST_NODES];
    final int[] value = new int[MOST_NODES];
    final int[] parent = new int[MOST_NODES];
    final int[] place = new int[MOST_NODES];
    final int[] depth = new int[MOST_NODES];
    final int[] children = new int[MOST_NODES];
    final int[] below = new int[MOST_NODES];
    final int[] height = new int[MOST_NODES];
    final int[] postorder = new int[MOST_NODES];

    Tree() {
      nodes = 1;
      parent[0] = -1;
      height[0] = 1;
    }

    void copy(Tree other) {
      nodes = other.nodes;
      for (int i = 0; i < MOST_NODES; i++) {
        label[i] = other.label[i];
        value[i] = other.value[i];
        parent[i] = other.parent[i];
        place[i] = other.place[i];
        depth[i] = other.depth[i];
        children[i] = other.children[i];
        below[i] = other.below[i];
        height[i] = other.height[i];
        postorder[i] = other.postorder[i];
      }
    }

    boolean add(int itsLabel, int itsParent) {
      if (nodes >= MOST_NODES) {
        return false;
      }
      label[nodes] = itsLabel;
      value[nodes] = 0;
      parent[nodes] = itsParent;
      nodes++;
      return true;
    }

    /** Finds what follows from the labels, values and parents. */
    void complete() {
      for (int i = 0; i < nodes; i++) {
        children[i] = 0;
        below[i] = 0;
        height[i] = 1;
        int above = parent[i];
        place[i] = above < 0 ? 0 : children[above];
        depth[i] = above < 0 ? 0 : depth[above] + 1;
        if (above >= 0) {
          children[above]++;
        }
      }
      for (int i = nodes - 1; i >= 0; i--) {
        int above = parent[i];
        if (above >= 0) {
          below[above] += below[i] + 1;
          height[above] = Math.max(height[above], height[i] + 1);
        }
      }
      sortInPostorder();
    }

    private void sortInPostorder() {
      for (int i = 0; i < nodes; i++) {
        // Before a node come the earlier nodes but its ancestors, and those below it.
        postorder[i - depth[i] + below[i]] = i;
      }
    }

    /** The number after the last node below this one; the node may be -1. */
    int endOf(int node) {
      return node < 0 ? nodes : node + 1 + below[node];
    }

    int childAt(int node, int at) {
      int end = endOf(node);
      for (int child = node + 1; child < end; child++) {
        if (parent[child] == node && place[child] == at) {
          return child;
        }
      }
      return NONE;
    }
  }

  /** What a matching depends on, and what a slot keeps. */
  private static final class Setup {
    Tree first = new Tree();
    Tree second = new Tree();
    int height = 2;
    int percent = 50;

    Tree treeOf(int tree) {
      return tree == 0 ? first : second;
    }

    void copy(Setup other) {
      first.copy(other.first);
      second.copy(other.second);
      height = other.height;
      percent = other.percent;
    }

    void swapTrees() {
      Tree kept = first;
      first = second;
      second = kept;
    }

    boolean haveSameLabel(int x, int y) {
      return first.label[x] == second.label[y];
    }

    boolean haveSameContent(int x, int y) {
      return first.label[x] == second.label[y] && first.value[x] == second.value[y];
    }

    /** In preorder, labels, values and the numbers of nodes below tell the whole shape. */
    boolean areEqual(int x, int y) {
      if (first.below[x] != second.below[y]) {
        return false;
      }
      for (int i = 0; i <= first.below[x]; i++) {
        if (!haveSameContent(x + i, y + i) || first.below[x + i] != second.below[y + i]) {
          return false;
        }
      }
      return true;
    }

    int kinship(int x, int y) {
      int a = first.parent[x];
      int b = second.parent[y];
      for (int levels = 0; levels < MOST_NODES; levels++) {
        if (a < 0 || b < 0 || first.label[a] != second.label[b]) {
          return levels;
        }
        a = first.parent[a];
        b = second.parent[b];
      }
      return MOST_NODES;
    }
  }

  /** The text, and what a reader finds in it. */
  private static final class Text {
    private static final int LABEL_DUE = 0;
    private static final int AFTER_LABEL = 1;
    private static final int AFTER_TENS = 2;
    private static final int AFTER_VALUE = 3;
    private static final int AFTER_CHILDREN = 4;

    private final int[] bytes = new int[MOST_BYTES];
    int length = 0;
    final Tree tree = new Tree();
    int open = 0;
    private int state = LABEL_DUE;
    private int parent = -1;

    boolean add(int letter) {
      if (length >= MOST_BYTES) {
        return false;
      }
      bytes[length] = letter;
      length++;
      return true;
    }

    /** Reads the text into the tree up to its fault; the parentheses open there are counted. */
    int findFault() {
      tree.nodes = 0;
      open = 0;
      state = LABEL_DUE;
      parent = -1;
      for (int at = 0; at < length; at++) {
        if (!takes(bytes[at])) {
          return at;
        }
      }
      return open == 0 && state != LABEL_DUE ? NONE : length;
    }

    private boolean takes(int letter) {
      if (state == LABEL_DUE) {
        return takesLabel(letter);
      }
      switch (letter) {
        case '(': return takesOpening();
        case ' ': return takesSpace();
        case ')': return takesClosing();
        default: return takesDigit(letter);
      }
    }

    private boolean takesLabel(int letter) {
      if (letter < 'a' || letter > 'h' || !tree.add(letter - 'a', parent)) {
        return false;
      }
      state = AFTER_LABEL;
      return true;
    }

    private boolean takesDigit(int letter) {
      boolean isDue = state == AFTER_LABEL || state == AFTER_TENS;
      int last = tree.nodes - 1;
      if (letter < '0' || letter > '9' || !isDue || last < 0) {
        return false;
      }
      tree.value[last] = 10 * tree.value[last] + letter - '0';
      state = state == AFTER_LABEL && letter != '0' ? AFTER_TENS : AFTER_VALUE;
      return true;
    }

    private boolean takesOpening() {
      if (state == AFTER_CHILDREN) {
        return false;
      }
      open++;
      parent = tree.nodes - 1;
      state = LABEL_DUE;
      return true;
    }

    private boolean takesSpace() {
      if (open == 0) {
        return false;
      }
      state = LABEL_DUE;
      return true;
    }

    private boolean takesClosing() {
      if (open == 0 || parent < 0) {
        return false;
      }
      open--;
      parent = tree.parent[parent];
      state = AFTER_CHILDREN;
      return true;
    }
  }

  /** The pairs of nodes of trees 0 and 1. */
  private static final class Matching {
    int pairs = 0;
    final int[] partner = new int[MOST_NODES];
    final int[] otherPartner = new int[MOST_NODES];
    final int[] phase = new int[MOST_NODES];

    void find(Setup setup) {
      pairs = 0;
      for (int i = 0; i < MOST_NODES; i++) {
        partner[i] = ABSENT;
        otherPartner[i] = ABSENT;
        phase[i] = ABSENT;
      }
      pairEqualSubtrees(setup);
      pairByDescendants(setup);
      pairRoots(setup);
    }

    private void pair(int x, int y, int inPhase) {
      partner[x] = y;
      otherPartner[y] = x;
      phase[x] = inPhase;
      pairs++;
    }

    private void pairEqualSubtrees(Setup setup) {
      int highest = Math.min(setup.first.height[0], setup.second.height[0]);
      for (int height = highest; height >= setup.height; height--) {
        boolean mayFindMore = true;
        for (int round = 0; round < MOST_NODES && mayFindMore; round++) {
          mayFindMore = pairNearest(setup, height);
        }
      }
    }

    private boolean pairNearest(Setup setup, int height) {
      int bestX = ABSENT;
      int bestY = ABSENT;
      int best = -1;
      for (int x = 0; x < setup.first.nodes; x++) {
        if (partner[x] != ABSENT || setup.first.height[x] != height) {
          continue;
        }
        for (int y = 0; y < setup.second.nodes; y++) {
          if (otherPartner[y] != ABSENT || !setup.areEqual(x, y)) {
            continue;
          }
          int nearness = nearness(setup, x, y);
          if (nearness > best) {
            best = nearness;
            bestX = x;
            bestY = y;
          }
        }
      }
      if (bestX == ABSENT || bestY == ABSENT) {
        return false;
      }
      for (int i = 0; i <= setup.first.below[bestX]; i++) {
        pair(bestX + i, bestY + i, 1);
      }
      return true;
    }

    /** Puts the kinship first and the places second: two places differ by less than 24. */
    private int nearness(Setup setup, int x, int y) {
      int difference = Math.abs(setup.first.place[x] - setup.second.place[y]);
      return MOST_NODES * setup.kinship(x, y) + MOST_NODES - 1 - difference;
    }

    private void pairByDescendants(Setup setup) {
      Tree first = setup.first;
      for (int i = 0; i < first.nodes; i++) {
        int x = first.postorder[i];
        if (partner[x] != ABSENT || first.below[x] == 0) {
          continue;
        }
        int y = mostAlike(setup, x);
        if (y != ABSENT) {
          int sum = first.below[x] + setup.second.below[y];
          if (200 * commonBelow(setup, x, y) >= setup.percent * sum) {
            pair(x, y, 2);
          }
        }
      }
    }

    private int mostAlike(Setup setup, int x) {
      int best = ABSENT;
      int bestCommon = 0;
      int bestSum = 1;
      for (int y = 0; y < setup.second.nodes; y++) {
        if (otherPartner[y] != ABSENT || !setup.haveSameLabel(x, y)) {
          continue;
        }
        int common = commonBelow(setup, x, y);
        int sum = setup.first.below[x] + setup.second.below[y];
        // With the sums multiplied out no likeness is rounded.
        if (common * bestSum > bestCommon * sum) {
          best = y;
          bestCommon = common;
          bestSum = sum;
        }
      }
      return best;
    }

    int commonBelow(Setup setup, int x, int y) {
      int common = 0;
      int endX = setup.first.endOf(x);
      int endY = setup.second.endOf(y);
      for (int i = x + 1; i < endX; i++) {
        if (partner[i] > y && partner[i] < endY) {
          common++;
        }
      }
      return common;
    }

    private void pairRoots(Setup setup) {
      boolean areFree = partner[0] == ABSENT && otherPartner[0] == ABSENT;
      if (areFree && setup.haveSameLabel(0, 0)) {
        pair(0, 0, 3);
      }
    }
  }

  /** A step of a script, with what is needed to take it back. Nodes are given by rooms. */
  private static final class Step {
    int kind;
    int room;
    int under;
    int place;
    int label;
    int value;
    int oldUnder;
    int oldPlace;
    int oldValue;

    int tell(int what) {
      boolean hasPlace = kind == INSERT || kind == MOVE;
      switch (what) {
        case 0: return kind;
        case 1: return numberOf(room);
        case 2: return hasPlace ? numberOf(under) : NONE;
        case 3: return hasPlace ? place : NONE;
        case 4: return kind == INSERT ? label : NONE;
        case 5: return kind == INSERT || kind == UPDATE ? value : NONE;
        default: return BAD_VALUE;
      }
    }
  }

  /** A tree whose nodes keep their rooms while it is changed; its node -1 is the room TOP. */
  private static final class WorkTree {
    final int[] label = new int[ROOMS];
    final int[] value = new int[ROOMS];
    final int[] parent = new int[ROOMS];
    final int[] place = new int[ROOMS];

    void load(Tree tree) {
      for (int room = 0; room < ROOMS; room++) {
        parent[room] = ABSENT;
      }
      for (int i = 0; i < tree.nodes; i++) {
        label[i] = tree.label[i];
        value[i] = tree.value[i];
        parent[i] = tree.parent[i] < 0 ? TOP : tree.parent[i];
        place[i] = tree.place[i];
      }
    }

    boolean has(int room) {
      return room >= 0 && room < TOP && parent[room] != ABSENT;
    }

    int childAt(int under, int at) {
      for (int room = 0; room < TOP; room++) {
        if (parent[room] == under && place[room] == at) {
          return room;
        }
      }
      return ABSENT;
    }

    void takeOut(int room) {
      if (!has(room)) {
        return;
      }
      int under = parent[room];
      parent[room] = ABSENT;
      for (int other = 0; other < TOP; other++) {
        if (parent[other] == under && place[other] > place[room]) {
          place[other]--;
        }
      }
    }

    void putIn(int room, int under, int at) {
      for (int other = 0; other < TOP; other++) {
        if (parent[other] == under && place[other] >= at) {
          place[other]++;
        }
      }
      parent[room] = under;
      place[room] = at;
    }

    void carryOut(Step step) {
      switch (step.kind) {
        case UPDATE:
          value[step.room] = step.value;
          break;
        case INSERT:
          label[step.room] = step.label;
          value[step.room] = step.value;
          putIn(step.room, step.under, step.place);
          break;
        case MOVE:
          takeOut(step.room);
          putIn(step.room, step.under, step.place);
          break;
        default:
          takeOut(step.room);
          break;
      }
    }

    void takeBack(Step step) {
      switch (step.kind) {
        case UPDATE:
          value[step.room] = step.oldValue;
          break;
        case INSERT:
          takeOut(step.room);
          break;
        case MOVE:
          takeOut(step.room);
          putIn(step.room, step.oldUnder, step.oldPlace);
          break;
        default:
          putIn(step.room, step.oldUnder, step.oldPlace);
          break;
      }
    }
  }

  /** The script, and the copy of tree 0 on which it is made. */
  private static final class Script {
    final Step[] all = new Step[MOST_STEPS];
    int length = 0;
    private final WorkTree copy = new WorkTree();
    /* For each node of tree 1: the room of its partner, and whether it is marked. */
    private final int[] partner = new int[MOST_NODES];
    private final boolean[] isMarked = new boolean[MOST_NODES];
    /* The children that are put in order, and the longest sequence that begins with each. */
    private final int[] sorted = new int[MOST_NODES];
    private final int[] longest = new int[MOST_NODES];

    Script() {
      for (int i = 0; i < MOST_STEPS; i++) {
        all[i] = new Step();
      }
    }

    void make(Setup setup, Matching matching) {
      length = 0;
      copy.load(setup.first);
      for (int y = 0; y < MOST_NODES; y++) {
        partner[y] = matching.otherPartner[y];
        isMarked[y] = false;
      }
      Tree second = setup.second;
      putChildrenInOrder(second, -1);
      for (int level = 0; level < second.height[0]; level++) {
        for (int y = 0; y < second.nodes; y++) {
          if (second.depth[y] == level) {
            bringIntoLine(second, y);
          }
        }
      }
      deleteRest(setup.first, matching);
    }

    private Step addStep(int kind, int room) {
      int last = Math.min(length, MOST_STEPS - 1);
      length = last + 1;
      Step made = all[last];
      made.kind = kind;
      made.room = room;
      return made;
    }

    private void bringIntoLine(Tree second, int y) {
      if (partner[y] == ABSENT) {
        insert(second, y);
      } else {
        int room = partner[y];
        if (copy.value[room] != second.value[y]) {
          update(room, second.value[y]);
        }
        if (copy.parent[room] != partnerOf(second.parent[y])) {
          move(second, y);
        }
      }
      putChildrenInOrder(second, y);
    }

    private int partnerOf(int y) {
      return y < 0 ? TOP : partner[y];
    }

    private void insert(Tree second, int y) {
      Step made = addStep(INSERT, roomOfInserted(y));
      made.under = partnerOf(second.parent[y]);
      made.place = placeFor(second, y);
      made.label = second.label[y];
      made.value = second.value[y];
      copy.carryOut(made);
      partner[y] = made.room;
      isMarked[y] = true;
    }

    private void update(int room, int value) {
      Step made = addStep(UPDATE, room);
      made.value = value;
      made.oldValue = copy.value[room];
      copy.carryOut(made);
    }

    private void move(Tree second, int y) {
      int room = partner[y];
      Step made = addStep(MOVE, room);
      made.oldUnder = copy.parent[room];
      made.oldPlace = copy.place[room];
      made.under = partnerOf(second.parent[y]);
      // The place counts the children that stay, so the node leaves before it is found.
      copy.takeOut(room);
      made.place = placeFor(second, y);
      copy.putIn(room, made.under, made.place);
      isMarked[y] = true;
    }

    private int placeFor(Tree second, int y) {
      int found = 0;
      int above = second.parent[y];
      for (int v = above + 1; v < y; v++) {
        if (second.parent[v] == above && isMarked[v]) {
          found = copy.place[partner[v]] + 1;
        }
      }
      return found;
    }

    private void putChildrenInOrder(Tree second, int y) {
      int many = gatherChildren(second, y);
      markLongest(many, measureSequences(many));
      for (int i = 0; i < many; i++) {
        if (!isMarked[sorted[i]]) {
          move(second, sorted[i]);
        }
      }
    }

    private int gatherChildren(Tree second, int y) {
      int many = 0;
      int end = second.endOf(y);
      for (int v = y + 1; v < end; v++) {
        if (second.parent[v] == y && isBelow(partner[v], partnerOf(y))) {
          sorted[many] = v;
          many++;
        }
      }
      return many;
    }

    private boolean isBelow(int room, int under) {
      return room != ABSENT && copy.parent[room] == under;
    }

    private int placeOf(int y) {
      return copy.place[partner[y]];
    }

    private int measureSequences(int many) {
      int most = 0;
      for (int i = many - 1; i >= 0; i--) {
        longest[i] = 1;
        for (int j = i + 1; j < many; j++) {
          if (placeOf(sorted[j]) > placeOf(sorted[i])) {
            longest[i] = Math.max(longest[i], longest[j] + 1);
          }
        }
        most = Math.max(most, longest[i]);
      }
      return most;
    }

    /** The earliest node that still allows a longest sequence makes it lexicographically first. */
    private void markLongest(int many, int most) {
      int due = most;
      int last = -1;
      for (int i = 0; i < many; i++) {
        if (longest[i] == due && placeOf(sorted[i]) > last) {
          isMarked[sorted[i]] = true;
          last = placeOf(sorted[i]);
          due--;
        }
      }
    }

    private void deleteRest(Tree first, Matching matching) {
      for (int i = 0; i < first.nodes; i++) {
        int x = first.postorder[i];
        if (matching.partner[x] == ABSENT) {
          Step made = addStep(DELETE, x);
          made.oldUnder = copy.parent[x];
          made.oldPlace = copy.place[x];
          copy.carryOut(made);
        }
      }
    }
  }

  /** Computes the smallest number of changes without moves, from the last nodes to the first. */
  private static final class EditDistance {
    /* Between the nodes from i on and those from j on, up to the ends of two subtrees. */
    private final int[][] forest = new int[MOST_NODES + 1][MOST_NODES + 1];
    /* Between the subtrees of i and j. */
    private final int[][] subtree = new int[MOST_NODES][MOST_NODES];

    int compute(Setup setup) {
      for (int x = setup.first.nodes - 1; x >= 0; x--) {
        for (int y = setup.second.nodes - 1; y >= 0; y--) {
          if (isKey(setup.first, x) && isKey(setup.second, y)) {
            compareSubtrees(setup, x, y);
          }
        }
      }
      return subtree[0][0];
    }

    /** A last child ends where its parent ends and is compared together with it. */
    private static boolean isKey(Tree tree, int node) {
      int above = tree.parent[node];
      return above < 0 || tree.endOf(above) != tree.endOf(node);
    }

    private void compareSubtrees(Setup setup, int x, int y) {
      int endX = setup.first.endOf(x);
      int endY = setup.second.endOf(y);
      for (int i = endX; i >= x; i--) {
        forest[i][endY] = endX - i;
      }
      for (int j = endY; j >= y; j--) {
        forest[endX][j] = endY - j;
      }
      for (int i = endX - 1; i >= x; i--) {
        for (int j = endY - 1; j >= y; j--) {
          int oneLess = Math.min(forest[i + 1][j], forest[i][j + 1]) + 1;
          int nextX = setup.first.endOf(i);
          int nextY = setup.second.endOf(j);
          if (nextX == endX && nextY == endY) {
            int change = setup.haveSameContent(i, j) ? 0 : 1;
            subtree[i][j] = Math.min(oneLess, forest[i + 1][j + 1] + change);
          }
          forest[i][j] = Math.min(oneLess, forest[nextX][nextY] + subtree[i][j]);
        }
      }
    }
  }

  /** What was printed. */
  private static final class Output {
    final int[] bytes = new int[MOST_PRINTED];
    int length = 0;

    void write(WorkTree tree) {
      length = 0;
      int room = tree.childAt(TOP, 0);
      for (int written = 0; written < TOP && room != ABSENT; written++) {
        putContent(tree.label[room], tree.value[room]);
        int child = tree.childAt(room, 0);
        if (child == ABSENT) {
          room = closeUpToNext(tree, room);
        } else {
          put('(');
          room = child;
        }
      }
    }

    private int closeUpToNext(WorkTree tree, int room) {
      int at = room;
      for (int level = 0; level < ROOMS && tree.has(at); level++) {
        int next = tree.childAt(tree.parent[at], tree.place[at] + 1);
        if (next != ABSENT) {
          put(' ');
          return next;
        }
        at = tree.parent[at];
        if (at != TOP) {
          put(')');
        }
      }
      return ABSENT;
    }

    private void putContent(int label, int value) {
      put('a' + label);
      if (value >= 10) {
        put('0' + value / 10);
      }
      if (value > 0) {
        put('0' + value % 10);
      }
    }

    private void put(int letter) {
      if (length < MOST_PRINTED) {
        bytes[length] = letter;
        length++;
      }
    }
  }
}
