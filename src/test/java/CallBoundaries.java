/** "An object is used for at most 512 calls": what is due is still due at the 512th call. */
final class CallBoundaries extends TestKit {
  private static final int CALLS = 512;
  private static final String WORDS = "An object is used for at most 512 calls after it has been made";

  static void all() {
    promise01NothingButChecksums();
    promise02NothingButAppend();
    promise06NothingButRead();
    promise12NothingButSetMatching();
    promise22StepOnAndBack();
    promise26NothingButPrint();
    promise28SaveAndRestore();
  }

  private static void promise01NothingButChecksums() {
    sentence(1, WORDS);
    TreeDiffer d = new TreeDiffer();
    long first = d.checksum();
    for (int call = 2; call <= CALLS; call++) due("checksum, call " + call, d.checksum(), first);
  }

  private static void promise02NothingButAppend() {
    sentence(2, WORDS);
    TreeDiffer d = new TreeDiffer();
    for (int call = 1; call <= CALLS; call++) due("append, call " + call, d.append('a'), call <= 100 ? call : FULL);
  }

  private static void promise06NothingButRead() {
    sentence(6, WORDS);
    String text = "a10(" + "b10 ".repeat(18) + "b10(b10(b10(b10(h99)))))";
    TreeDiffer d = new TreeDiffer();
    add(d, text);
    for (int call = 101; call <= CALLS; call++) due("read, call " + call, d.read(call % 2), 24);
  }

  private static void promise12NothingButSetMatching() {
    sentence(12, WORDS);
    TreeDiffer d = two(star(23), chain(24));
    int used = 2 + star(23).length() + chain(24).length() + 2;
    int before = 2050;
    for (int call = used + 1; call < CALLS; call += 2) {
      int h = 1 + call % 9;
      int p = call % 101;
      due("setMatching, call " + call, d.setMatching(h, p), before);
      due("pairs, call " + (call + 1), d.pairs(), 1);
      before = 1000 * h + p;
    }
  }

  private static void promise22StepOnAndBack() {
    sentence(22, WORDS);
    TreeDiffer d = two("b", star(11));
    int used = 2 + 1 + star(11).length() + 2;
    int steps = 13;
    int done = 0;
    boolean isOnward = true;
    for (int call = used + 1; call <= CALLS; call++) {
      int want = isOnward ? done + 1 : done - 1;
      boolean isPossible = want >= 0 && want <= steps;
      due("a step, call " + call, isOnward ? d.stepOn() : d.stepBack(), isPossible ? want : NOT_POSSIBLE);
      if (isPossible) done = want;
      else isOnward = !isOnward;
    }
  }

  private static void promise26NothingButPrint() {
    sentence(26, WORDS);
    TreeDiffer d = two(star(23), "b");
    int used = 2 + star(23).length() + 1 + 2;
    int[] want = {48, 1, 48};
    for (int call = used + 1; call <= CALLS; call++) due("print, call " + call, d.print(call % 3), want[call % 3]);
  }

  private static void promise28SaveAndRestore() {
    sentence(28, WORDS);
    TreeDiffer d = two("b(c)", "d");
    int used = 2 + 5 + 2;
    int nodes = 2;
    for (int call = used + 1; call < CALLS - 1; call += 3) {
      due("save, call " + call, d.save(call % 2), nodes);
      nodes = 3 - nodes;
      due("exchange, call " + (call + 1), d.exchange(), nodes);
      nodes = 3 - nodes;
      due("restore, call " + (call + 2), d.restore(call % 2), nodes);
    }
  }
}
