import java.util.List;

/**
 * For each sentence of the document one test of its own, or more where it names several boundary
 * cases: what is too small, too large, empty or full, what would count round, what is refused.
 */
public final class EdgesTest {
  public static void main(String[] args) throws Exception {
    Edges edges = new Edges();
    TellingEdges.addTo(edges);
    TextEdges.addTo(edges);
    GrammarEdges.addTo(edges);
    JourneyEdges.addTo(edges);
    StayEdges.addTo(edges);
    LetterEdges.addTo(edges);
    MeetingEdges.addTo(edges);
    ImageEdges.addTo(edges);
    List<String> failures = edges.run();
    for (String failure : failures) {
      System.out.println("EdgesTest: " + failure);
    }
    System.out.println("EdgesTest: " + edges.count() + " tests, " + failures.size() + " failed");
    if (!failures.isEmpty()) {
      System.exit(1);
    }
  }
}
