import java.util.List;

/** Boundary cases of the image, of going back and of what there is: promises 28 to 30. */
final class ImageEdges {
  private static final String IMAGE =
      "AN IMAGE: all as it is, but the tape and the latest FAULT; TEXTS told behind it are gone"
          + " behind going back.";
  private static final String ABOUT =
      "0 PLACES, 1 WAYS, 2 SHUT, 3 PACE, 4 BOATS, 5 SEEN, 6 EXCUSES, 7 TEXTS, 8 bytes of the tape,"
          + " 10 + boat: its STEP, 20 + boat: the DAY of its latest LETTER (NONE).";
  private static final String BACK =
      "All is as at THE IMAGE again (it stays): how many were SEEN.";

  private ImageEdges() {}

  static void addTo(Edges edges) {
    edges.term(IMAGE, ImageEdges::tapeIsNotOfIt);
    edges.term(IMAGE, ImageEdges::faultIsNotOfIt);
    edges.term(IMAGE, ImageEdges::textsAreGone);
    edges.promise(
        28, "THE IMAGE is as all is now: how many were SEEN.", ImageEdges::emptyAndFullImage);
    edges.promise(28, "THE IMAGE is as all is now: how many were SEEN.", ImageEdges::latestImage);
    edges.promise(29, BACK, ImageEdges::backToNothing);
    edges.promise(29, BACK, ImageEdges::eachThingComesBack);
    edges.promise(29, BACK, ImageEdges::itStays);
    edges.promise(29, BACK, ImageEdges::lettersComeBack);
    edges.promise(29, BACK, ImageEdges::lettersOfAllBoatsComeBack);
    edges.promise(30, ABOUT, ImageEdges::allEmptyAndFull);
    edges.promise(30, ABOUT, ImageEdges::stepsAndDays);
    edges.promise(30, "-2 for others.", ImageEdges::aboutOthers);
  }

  private static void tapeIsNotOfIt(Due due) {
    BoatsMoveOn x = new BoatsMoveOn();
    x.image();
    Due.tape(x, "need 1;");
    x.back();
    due.is("what was fed behind it stays", x.about(8), 7);
    due.is("and is read", x.text(), 0);
    Due.tape(x, "stay 1;");
    x.image();
    x.end(0);
    x.back();
    due.is("what was on it doesn't come back", x.about(8), 0);
    Due.tape(x, " ".repeat(300));
    x.back();
    due.is("a full one stays full", x.feed(0, 0, 0, 0, 0), -1);
  }

  private static void faultIsNotOfIt(Due due) {
    BoatsMoveOn x = new BoatsMoveOn();
    x.image();
    Due.tell(x, "  !");
    x.back();
    due.is("a fault behind it stays", x.fault(0), 1);
    due.is("with its place", x.fault(1), 2);
    x.image();
    Due.tell(x, "");
    x.back();
    due.is("one ahead of it doesn't come back", x.fault(0), 0);
    due.is("nor its place", x.fault(1), -1);
  }

  private static void textsAreGone(Due due) {
    BoatsMoveOn x = Scene.row(2, 5, 10, 0);
    Due.tell(x, "near 1 = 1;");
    x.image();
    for (int i = 1; i < 4; i++) {
      due.is("text " + i, Due.tell(x, "near 1 = 1;"), i);
    }
    due.is("four are all", Due.tell(x, ""), -1);
    x.back();
    due.is("one is left", x.about(7), 1);
    due.is("it is as it was", x.round(0, 0), 3);
    for (int rule = 1; rule < 4; rule++) {
      due.is("rule " + rule + " is gone", x.round(rule, 0), -1);
    }
    due.is("a new one instead", Due.tell(x, "stay 1;"), 1);
    due.is("has nothing of the old one", x.round(1, 0), 1);
    x.back();
    due.is("it is gone, too", x.round(1, 0), -1);
  }

  /** All that can be told, as often as it can be told. */
  private static BoatsMoveOn full() {
    BoatsMoveOn x = Scene.row(10, 30, 60, 8);
    for (int i = 9; i < 15; i++) {
      x.way(i - 9, i - 6, 1);
    }
    for (int i = 0; i < 10; i++) {
      x.shut(14, i, i);
    }
    for (int i = 0; i < 60; i++) {
      x.seen(i % 8, 9, 59, 59);
    }
    for (int i = 0; i < 20; i++) {
      x.excuse(i % 8, i, i, 59);
    }
    for (int i = 0; i < 4; i++) {
      Due.tell(x, "need 1;");
    }
    return x;
  }

  private static void counts(Due due, String when, BoatsMoveOn x, int... want) {
    for (int what = 0; what < want.length; what++) {
      due.is(when + ": about(" + what + ")", x.about(what), want[what]);
    }
  }

  private static void emptyAndFullImage(Due due) {
    BoatsMoveOn x = new BoatsMoveOn();
    due.is("nothing was seen", x.image(), 0);
    BoatsMoveOn y = full();
    due.is("sixty were seen", y.image(), 60);
    due.is("all is full", y.seen(0, 0, 0, 0), -1);
    y.pace(1);
    due.is("back()", y.back(), 60);
    counts(due, "back", y, 10, 15, 10, 60, 8, 60, 20, 4, 0);
    due.is("all is full", y.seen(0, 0, 0, 0), -1);
    due.is("all is full", y.place(0), -1);
  }

  private static void latestImage(Due due) {
    BoatsMoveOn x = Scene.still(1);
    x.seen(0, 0, 0, 0);
    due.is("one", x.image(), 1);
    x.seen(0, 0, 1, 1);
    due.is("two", x.image(), 2);
    due.is("an image changes nothing", x.about(5), 2);
    x.seen(0, 0, 2, 2);
    due.is("back to the latest one", x.back(), 2);
    due.is("the last day seen", x.known(0, 59, 1), 1);
    x.seen(0, 0, 9, 9);
    due.is("three", x.image(), 3);
    due.is("back at once", x.back(), 3);
    due.is("the last day seen", x.known(0, 59, 1), 9);
  }

  private static void backToNothing(Due due) {
    BoatsMoveOn x = new BoatsMoveOn();
    List<Integer> atFirst = Scene.counts(x);
    due.is("back() at once", x.back(), 0);
    due.is("nothing changed:", Scene.counts(x), atFirst);
    BoatsMoveOn y = full();
    due.is("back() from all", y.back(), 0);
    counts(due, "back from all", y, 0, 0, 0, 10, 0, 0, 0, 0, 0);
    due.is("no boat", y.about(10), -2);
    due.is("all can be told again", y.place(9), 0);
  }

  /** What comes behind the image is gone in each of its effects, not only in the counts. */
  private static void eachThingComesBack(Due due) {
    BoatsMoveOn x = Scene.row(3, 5, 5, 2);
    Scene.seenDaily(x, 0, 10, 0, 1);
    x.seen(0, 1, 12, 12);
    Due.tell(x, "near theirs = 9; need 0;");
    x.image();
    x.place(9);
    x.way(0, 2, 1);
    x.shut(0, 0, 59);
    x.pace(60);
    x.boat();
    x.seen(1, 0, 0, 0);
    x.excuse(0, 0, 59, 0);
    due.is("back()", x.back(), 3);
    counts(due, "back", x, 3, 2, 0, 5, 2, 3, 0, 1, 0);
    due.is("no place more", x.round(0, 0), 1);
    due.is("no way more", x.miles(-1, 0, 2), 10);
    due.is("no way shut", x.miles(11, 0, 1), 5);
    due.is("the old pace", x.known(0, 59, 2), 0);
    due.is("no boat more", x.may(2, 0, 0), -1);
    due.is("nothing more seen", x.known(1, 59, 0), -1);
    due.is("no excuse", x.longest(0, 1, 0, 59, 0), 2);
    // Others come in their places.
    x.place(0);
    x.way(0, 3, 2);
    due.is("another parish", x.round(0, 0), 1);
    due.is("another way", x.miles(-1, 0, 3), 2);
    x.pace(4);
    due.is("a lesser pace", x.known(0, 59, 2), 1);
    x.back();
    due.is("the old pace", x.known(0, 59, 2), 0);
  }

  private static void itStays(Due due) {
    BoatsMoveOn x = Scene.still(1);
    x.seen(0, 0, 10, 10);
    x.image();
    List<Integer> atImage = Scene.counts(x);
    for (int i = 0; i < 5; i++) {
      x.seen(0, 0, 11 + i, 11 + i);
      x.pace(20 + i);
      due.is("back()", x.back(), 1);
      due.is("back() once more", x.back(), 1);
      due.is("all is as it was:", Scene.counts(x), atImage);
      due.is("the last day", x.known(0, 59, 1), 10);
    }
  }

  private static void lettersComeBack(Due due) {
    BoatsMoveOn x = Scene.still(1);
    Due.tell(x, "need 0; stay 0;");
    x.seen(0, 0, 0, 0);
    x.send(0, 0, 1);
    x.send(0, 0, 20);
    x.image();
    due.is("a third", x.send(0, 0, 40), 3);
    x.back();
    due.is("it is gone", x.about(10), 2);
    due.is("the day of the second", x.about(20), 20);
    x.excuse(0, 0, 0, 20);
    due.is("the second is taken back", x.appeal(0, 20), 1);
    due.is("the first is taken back", x.appeal(0, 20), 0);
    due.is("another instead", x.send(0, -1, 30), 1);
    x.back();
    due.is("both are there again", x.about(10), 2);
    due.is("the day of the second", x.about(20), 20);
    due.is("by the old rule, without an excuse", x.appeal(0, 59), -1);
    x.excuse(0, 0, 0, 20);
    due.is("by the old rule, with one", x.appeal(0, 59), 1);
    due.is("the day of the first", x.about(20), 1);
    due.is("by the old rule, with one", x.appeal(0, 59), 0);
  }

  /** The letters of each boat, with their days and rules, all three of each. */
  private static void lettersOfAllBoatsComeBack(Due due) {
    BoatsMoveOn x = Scene.still(8);
    Due.tell(x, "need 0; stay 0;");
    for (int boat = 0; boat < 8; boat++) {
      x.seen(boat, 0, 0, 0);
      for (int letter = 0; letter < 3; letter++) {
        x.send(boat, 0, boat + 14 * letter);
      }
    }
    x.image();
    for (int boat = 0; boat < 8; boat++) {
      x.excuse(boat, 0, 0, 0);
      for (int letter = 0; letter < 3; letter++) {
        x.appeal(boat, 59);
      }
      x.send(boat, -1, 8);
      x.send(boat, -1, 22);
      x.send(boat, -1, 59);
    }
    x.back();
    for (int boat = 0; boat < 8; boat++) {
      due.is("three letters of boat " + boat, x.about(10 + boat), 3);
      x.excuse(boat, 0, 0, 0);
      for (int letter = 2; letter >= 0; letter--) {
        due.is("the day of one", x.about(20 + boat), boat + 14 * letter);
        due.is("by its rule it is taken back", x.appeal(boat, 59), letter);
      }
    }
  }

  private static void allEmptyAndFull(Due due) {
    counts(due, "new", new BoatsMoveOn(), 0, 0, 0, 10, 0, 0, 0, 0, 0);
    BoatsMoveOn x = full();
    Due.tape(x, " ".repeat(300));
    counts(due, "full", x, 10, 15, 10, 60, 8, 60, 20, 4, 300);
    BoatsMoveOn y = Scene.row(3, 7, 1, 4);
    y.seen(3, 2, 5, 5);
    y.seen(3, 2, 5, 5);
    for (int i = 0; i < 5; i++) {
      y.excuse(2, i, i, i);
    }
    y.shut(1, 2, 3);
    Due.tell(y, "");
    Due.tape(y, "abc");
    counts(due, "some", y, 3, 2, 1, 1, 4, 2, 5, 1, 3);
  }

  private static void stepsAndDays(Due due) {
    BoatsMoveOn x = Scene.still(8);
    for (int boat = 0; boat < 8; boat++) {
      due.is("about(" + (10 + boat) + ")", x.about(10 + boat), 0);
      due.is("about(" + (20 + boat) + ")", x.about(20 + boat), -1);
      x.seen(boat, 0, 0, 0);
    }
    x.send(0, -1, 0);
    x.send(7, -1, 3);
    x.send(7, -1, 59);
    due.is("the first boat's step", x.about(10), 1);
    due.is("the first boat's day", x.about(20), 0);
    due.is("the last boat's step", x.about(17), 2);
    due.is("the last boat's day", x.about(27), 59);
    for (int boat = 1; boat < 7; boat++) {
      due.is("about(" + (10 + boat) + ")", x.about(10 + boat), 0);
      due.is("about(" + (20 + boat) + ")", x.about(20 + boat), -1);
    }
  }

  private static void aboutOthers(Due due) {
    BoatsMoveOn x = Scene.still(8);
    for (int what : new int[] {-1, -2, -10, 9, 18, 19, 28, 29, 30, 31, 100, 110, Scene.MIN,
        Scene.MIN + 10, Scene.MIN + 20, Scene.MAX}) {
      due.is("about(" + what + ")", x.about(what), -2);
    }
    BoatsMoveOn y = Scene.still(3);
    due.is("boat 2: step", y.about(12), 0);
    due.is("boat 3 isn't told: step", y.about(13), -2);
    due.is("boat 2: day", y.about(22), -1);
    due.is("boat 3 isn't told: day", y.about(23), -2);
  }
}
