/**
 * Each sentence of the document that names a boundary case (too small, too large, empty, full, a
 * wrap-around, a refused call) has a test of its own, named by its promise and quoted word for word.
 */
public final class BoundariesTest extends TestKit {
  public static void main(String[] args) {
    TextBoundaries.all();
    TreeBoundaries.all();
    MatchingBoundaries.all();
    ScriptBoundaries.all();
    WorkingBoundaries.all();
    PrintBoundaries.all();
    SlotBoundaries.all();
    ErrorBoundaries.all();
    CallBoundaries.all();
    everyPromiseIsTold();
    end();
  }
}
