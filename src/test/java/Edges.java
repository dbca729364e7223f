import java.io.IOException;
import java.util.ArrayList;
import java.util.List;
import java.util.Map;

/**
 * Tests of boundary cases, each by the sentence of the document that names the case. Each has a
 * count of wrong answers of its own, so that it is seen which sentences are broken.
 */
final class Edges {
  interface Test {
    void run(Due due);
  }

  private record Edge(String chapter, String sentence, Test test) {}

  private final List<Edge> edges = new ArrayList<>();
  private final List<String> failures = new ArrayList<>();

  void whatItIs(String sentence, Test test) {
    edges.add(new Edge("What it is", sentence, test));
  }

  void term(String sentence, Test test) {
    edges.add(new Edge("Terms", sentence, test));
  }

  void promise(int number, String sentence, Test test) {
    edges.add(new Edge("Promise " + number, sentence, test));
  }

  /** Runs all tests; the sentences that are broken, and what is amiss with the tests themselves. */
  List<String> run() throws IOException {
    for (Edge edge : edges) {
      run(edge);
    }
    if (Document.isThere()) {
      compareWithDocument(Document.sentences());
    } else {
      System.out.println("the document isn't there: its sentences weren't compared");
    }
    return failures;
  }

  int count() {
    return edges.size();
  }

  private void run(Edge edge) {
    String name = edge.chapter() + " '" + edge.sentence() + "'";
    Due due = new Due(name);
    try {
      edge.test().run(due);
    } catch (RuntimeException thrown) {
      due.is("it throws " + thrown + " at " + thrown.getStackTrace()[0] + ": thrown", 1, 0);
    }
    if (due.wrong() != 0) {
      failures.add(name);
    } else if (due.asked() == 0) {
      failures.add(name + " asks nothing");
    }
  }

  /** Each sentence that a test names stands in the document, and each one there has a test. */
  private void compareWithDocument(Map<String, List<String>> document) {
    for (Edge edge : edges) {
      List<String> sentences = document.getOrDefault(edge.chapter(), List.of());
      if (!sentences.contains(edge.sentence())) {
        failures.add("no sentence of " + edge.chapter() + ": " + edge.sentence());
      }
    }
    document.forEach(
        (chapter, sentences) -> {
          if (chapter.equals("Terms") || chapter.startsWith("Promise ")) {
            sentences.forEach(sentence -> demandTest(chapter, sentence));
          }
        });
  }

  private void demandTest(String chapter, String sentence) {
    for (Edge edge : edges) {
      if (edge.chapter().equals(chapter) && edge.sentence().equals(sentence)) {
        return;
      }
    }
    failures.add("without a test: " + chapter + " '" + sentence + "'");
  }
}
