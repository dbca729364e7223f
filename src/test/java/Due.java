import java.nio.charset.StandardCharsets;
import java.util.List;

/** Counts the answers of one test that are not the ones that are due. */
final class Due {
  private final String test;
  private int asked = 0;
  private int wrong = 0;

  Due(String test) {
    this.test = test;
  }

  void is(String call, long got, long want) {
    asked++;
    if (got != want) {
      wrong++;
      if (wrong <= 40) {
        System.out.println(test + ": " + call + " answered " + got + ", due is " + want);
      }
    }
  }

  void is(String call, boolean got, boolean want) {
    is(call, got ? 1 : 0, want ? 1 : 0);
  }

  void is(String call, List<Integer> got, List<Integer> want) {
    is(call + " " + got + " like " + want, got.equals(want), true);
  }

  int wrong() {
    return wrong;
  }

  int asked() {
    return asked;
  }

  /** Ends the program with exit code 1 if an answer was wrong, or if nothing was asked. */
  void close() {
    System.out.println(test + ": " + asked + " answers, " + wrong + " wrong");
    if (wrong != 0 || asked == 0) {
      System.exit(1);
    }
  }

  /** Puts a text on the (empty) tape, as the calls feed and end do it. */
  static void tape(BoatsMoveOn x, byte[] bytes) {
    for (int at = 0; at < bytes.length; at += 20) {
      int[] words = new int[5];
      for (int i = 0; i < 20; i++) {
        int sign = at + i < bytes.length ? bytes[at + i] & 255 : 32;
        words[i / 4] = words[i / 4] << 8 | sign;
      }
      x.feed(words[0], words[1], words[2], words[3], words[4]);
    }
    x.end(bytes.length);
  }

  static void tape(BoatsMoveOn x, String text) {
    tape(x, text.getBytes(StandardCharsets.ISO_8859_1));
  }

  /** Tells a text: its number, or NONE. */
  static int tell(BoatsMoveOn x, String text) {
    tape(x, text);
    return x.text();
  }

  /** Tells a text and asks what fault it has, and where. */
  void fault(String text, int fault, int at) {
    BoatsMoveOn x = new BoatsMoveOn();
    int number = tell(x, text);
    is("text of '" + text + "'", number, fault == 0 ? 0 : -1);
    is("fault(0) of '" + text + "'", x.fault(0), fault);
    is("fault(1) of '" + text + "'", x.fault(1), at);
    is("about(8) behind '" + text + "'", x.about(8), 0);
    is("about(7) behind '" + text + "'", x.about(7), fault == 0 ? 1 : 0);
  }
}
