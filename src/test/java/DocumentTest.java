/**
 * The document from its first line to its last: each sentence that asks for something has a test,
 * named by its promise and quoted word for word. The files *Boundaries.java have those that name a
 * boundary case (too small, too large, empty, full, a refused call), the others are plain.
 */
public final class DocumentTest extends TestKit {
  public static void main(String[] args) throws Exception {
    FaceSentences.all();
    PlainSentences.all();
    TextBoundaries.all();
    TreeBoundaries.all();
    MatchingBoundaries.all();
    ScriptBoundaries.all();
    WorkingBoundaries.all();
    PrintBoundaries.all();
    SlotBoundaries.all();
    ErrorBoundaries.all();
    CallBoundaries.all();
    everyPromiseIsTold();
    everySentenceIsTold();
    end();
  }
}
