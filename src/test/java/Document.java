import java.io.IOException;
import java.nio.file.Files;
import java.nio.file.Path;
import java.util.ArrayList;
import java.util.LinkedHashMap;
import java.util.List;
import java.util.Map;

/** The document, cut into the sentences of its chapters, so that tests can name them. */
final class Document {
  private static final Path PATH = Path.of("../shared/DOC.md");

  private Document() {}

  static boolean isThere() {
    return Files.isReadable(PATH);
  }

  /** For each chapter ("Terms", "Promise 7") its sentences, in their order. */
  static Map<String, List<String>> sentences() throws IOException {
    Map<String, StringBuilder> chapters = new LinkedHashMap<>();
    StringBuilder chapter = new StringBuilder();
    for (String line : Files.readAllLines(PATH)) {
      if (line.startsWith("#")) {
        chapter = new StringBuilder();
        chapters.put(line.replaceAll("^#+ *", "").replaceAll(":.*", ""), chapter);
      } else if (!line.startsWith("```")) {
        chapter.append(line).append(' ');
      }
    }
    Map<String, List<String>> cut = new LinkedHashMap<>();
    chapters.forEach((name, text) -> cut.put(name, cut(text.toString())));
    return cut;
  }

  /** The methods of the public face ("int place(int parish)"); none if the document isn't there. */
  static List<String> face() throws IOException {
    List<String> methods = new ArrayList<>();
    for (String line : isThere() ? Files.readAllLines(PATH) : List.<String>of()) {
      if (line.matches("    public \\w+ \\w+\\(.*\\);")) {
        methods.add(line.replace("public ", "").replace(";", "").strip());
      }
    }
    return methods;
  }

  /** A sentence ends with a full stop that isn't one of two, as those of a range (0 .. 9) are. */
  private static List<String> cut(String chapter) {
    String plain = chapter.replaceAll("\\s+", " ").trim();
    // Neither the number of a part nor what is called is a piece of a sentence.
    plain = plain.replaceAll("==== [IV]+\\. ?", "").replaceAll("^`[^`]*`: ", "");
    List<String> sentences = new ArrayList<>();
    for (String sentence : plain.split("(?<=[^.]\\.) ")) {
      sentences.add(sentence);
    }
    return sentences;
  }
}
