/** The document's boundary cases, sentence by sentence: the terms first, then the promises. */
public final class BoundaryTest {
  private BoundaryTest() { }

  public static void main(String[] args) throws Exception {
    Check.begin(300);
    Sentences.readDocument();
    DraftBoundaries.run();
    TransformBoundaries.run();
    PromiseBoundaries.run();
    Sentences.end();
  }
}
