import java.io.IOException;
import java.nio.file.DirectoryStream;
import java.nio.file.Files;
import java.nio.file.Path;
import java.util.ArrayList;
import java.util.List;

/** What README.md shows: its example answers as it says there, and it names every call. */
public final class ReadmeTest {
  private static final Path README = Path.of("README.md");
  private static final Path ITSELF = Path.of("src/test/java/ReadmeTest.java");

  public static void main(String[] args) throws IOException {
    Due due = new Due("ReadmeTest");
    example(due);
    sameExample(due);
    everyCall(due);
    due.close();
  }

  private static void example(Due due) {
    // README: from here
    BoatsMoveOn x = new BoatsMoveOn();
    int wharf = x.place(3); // a place of parish 3: its number, 0
    int lock = x.place(3); // 1
    x.way(wharf, lock, 4); // four miles
    int boat = x.boat();
    x.seen(boat, wharf, 0, 0); // on day 0, told on day 0
    x.seen(boat, wharf, 20, 21); // on day 20, told on day 21
    int where = x.may(boat, 10, 21); // on day 10, as known on day 21: 3, bits 0 and 1
    int tooLong = x.over(boat, wharf, BoatsMoveOn.NONE, 21); // more than 14 days: 1, perhaps

    // a rule of twenty bytes: near miles<5;need 0;
    x.feed(0x6e656172, 0x206d696c, 0x65733c35, 0x3b6e6565, 0x6420303b);
    x.end(20); // cuts what was fed only to fill the last twenty; here nothing
    int rule = x.text(); // its number, 0
    int byRule = x.over(boat, wharf, rule, 21); // the lock is the same place: 2, for sure

    x.image(); // to go back to
    int sent = x.send(boat, rule, 21); // the first letter: 1
    x.excuse(boat, 3, 10, 30); // days 3 to 10, proved on day 30
    int early = x.appeal(boat, 29); // not proved yet: NONE
    int appealed = x.appeal(boat, 30); // 13 days are left: 0, the letter is taken back
    int sightings = x.back(); // as at the image, without the excuse: 2
    // README: to here
    due.is("wharf", wharf, 0);
    due.is("lock", lock, 1);
    due.is("where", where, 3);
    due.is("tooLong", tooLong, 1);
    due.is("rule", rule, 0);
    due.is("byRule", byRule, 2);
    due.is("sent", sent, 1);
    due.is("early", early, BoatsMoveOn.NONE);
    due.is("appealed", appealed, 0);
    due.is("sightings", sightings, 2);
    due.is("no excuse is left", x.about(6), 0);
  }

  private static void sameExample(Due due) throws IOException {
    List<String> ran = between("// README: from here", "// README: to here", ITSELF);
    List<String> shown = between("```java", "```", README);
    due.is("the example has lines", ran.size() > 10, true);
    due.is("README's example is the one that ran", shown.equals(ran), true);
  }

  /** The lines of a file behind one and ahead of another one, without what they are indented by. */
  private static List<String> between(String from, String to, Path path) throws IOException {
    List<String> lines = new ArrayList<>();
    boolean inside = false;
    for (String line : Files.readAllLines(path)) {
      if (inside && line.strip().equals(to)) {
        break;
      }
      if (inside) {
        lines.add(line.strip());
      }
      inside = inside || line.strip().equals(from);
    }
    return lines;
  }

  private static void everyCall(Due due) throws IOException {
    String readme = Files.readString(README);
    for (String method : Document.face()) {
      String call = method.replaceAll("^\\w+ ", "").replaceAll("int ", "");
      due.is("README has `" + call + "`", readme.contains("`" + call + "`"), true);
    }
    try (DirectoryStream<Path> tests =
        Files.newDirectoryStream(ITSELF.getParent(), "*Test.java")) {
      for (Path test : tests) {
        String name = test.getFileName().toString().replace(".java", "");
        due.is("README has " + name, readme.contains("| " + name + " |"), true);
      }
    }
  }
}
