/** Promises 28 to 30: the image, going back to it, and what there is. */
public final class ImageTest {
  public static void main(String[] args) {
    Due due = new Due("ImageTest");
    counts(due);
    backTwice(due);
    textsAreGone(due);
    tapeAndFaultStay(due);
    lettersComeBack(due);
    waysComeBack(due);
    abouts(due);
    due.close();
  }

  private static BoatsMoveOn some() {
    BoatsMoveOn x = new BoatsMoveOn();
    x.place(0);
    x.place(1);
    x.way(0, 1, 5);
    x.shut(0, 3, 4);
    x.pace(5);
    x.boat();
    x.seen(0, 0, 0, 0);
    x.excuse(0, 0, 0, 0);
    Due.tell(x, "need 0; stay 0;");
    return x;
  }

  private static void more(BoatsMoveOn x) {
    x.place(2);
    x.place(3);
    x.way(1, 2, 7);
    x.shut(1, 0, 59);
    x.shut(0, 0, 59);
    x.pace(60);
    x.boat();
    x.boat();
    x.seen(1, 2, 4, 4);
    x.seen(0, 1, 9, 9);
    x.excuse(1, 0, 59, 0);
    Due.tell(x, "stay 2;");
    x.send(0, -1, 0);
  }

  private static void are(Due due, String when, BoatsMoveOn x, int... want) {
    for (int what = 0; what < want.length; what++) {
      due.is(when + ": about(" + what + ")", x.about(what), want[what]);
    }
  }

  private static void counts(Due due) {
    BoatsMoveOn x = some();
    due.is("image()", x.image(), 1);
    are(due, "at the image", x, 2, 1, 1, 5, 1, 1, 1, 1, 0);
    more(x);
    are(due, "behind it", x, 4, 2, 3, 60, 3, 3, 2, 2, 0);
    due.is("about(10)", x.about(10), 1);
    due.is("back()", x.back(), 1);
    are(due, "back", x, 2, 1, 1, 5, 1, 1, 1, 1, 0);
    due.is("about(10)", x.about(10), 0);
    due.is("about(20)", x.about(20), -1);
    due.is("about(11)", x.about(11), -2);
  }

  private static void backTwice(Due due) {
    BoatsMoveOn x = some();
    x.image();
    for (int i = 0; i < 3; i++) {
      more(x);
      due.is("back()", x.back(), 1);
      are(due, "back", x, 2, 1, 1, 5, 1, 1, 1, 1, 0);
      due.is("back() at once", x.back(), 1);
    }
    more(x);
    due.is("a later image", x.image(), 3);
    x.seen(0, 0, 10, 10);
    due.is("back to the later one", x.back(), 3);
    are(due, "back to the later one", x, 4, 2, 3, 60, 3, 3, 2, 2, 0);
    // What comes behind going back is told anew, with other contents.
    BoatsMoveOn y = new BoatsMoveOn();
    y.image();
    y.place(7);
    y.place(8);
    y.way(0, 1, 9);
    y.boat();
    y.seen(0, 1, 3, 3);
    due.is("back to nothing", y.back(), 0);
    due.is("place", y.place(1), 0);
    due.is("place", y.place(1), 1);
    due.is("no way any more", y.miles(-1, 0, 1), -1);
    due.is("way", y.way(0, 1, 4), 0);
    due.is("the new way", y.miles(-1, 0, 1), 4);
    due.is("boat", y.boat(), 0);
    due.is("never seen", y.known(0, 59, 0), -1);
    Due.tell(y, "near theirs = 1;");
    due.is("the new parishes", y.round(0, 0), 3);
  }

  private static void textsAreGone(Due due) {
    BoatsMoveOn x = some();
    due.is("text 1", Due.tell(x, "near 1 = 1;"), 1);
    x.image();
    due.is("text 2", Due.tell(x, "near 1 = 2;"), 2);
    due.is("round(2, 0)", x.round(2, 0), 1);
    x.back();
    due.is("it is gone", x.round(2, 0), -1);
    due.is("those ahead of it aren't", x.round(1, 0), 3);
    due.is("about(7)", x.about(7), 2);
    due.is("text 2 anew", Due.tell(x, "near 2 = 2;"), 2);
    due.is("round(2, 0)", x.round(2, 0), 3);
    due.is("text 3", Due.tell(x, ""), 3);
    due.is("a fifth", Due.tell(x, ""), -1);
    x.back();
    due.is("text 2 once more", Due.tell(x, ""), 2);
    due.is("round(2, 0)", x.round(2, 0), 1);
  }

  private static void tapeAndFaultStay(Due due) {
    BoatsMoveOn x = some();
    x.image();
    due.is("a fault", Due.tell(x, "stay ("), -1);
    Due.tape(x, "stay 4;  ");
    x.back();
    due.is("the tape stays", x.about(8), 9);
    due.is("the fault stays", x.fault(0), 1);
    due.is("and its place", x.fault(1), 6);
    due.is("the tape can be read", x.text(), 1);
    due.is("without a fault", x.fault(0), 0);
    // And the other way round: neither comes back.
    Due.tape(x, "need 1;");
    x.image();
    due.is("text", x.text(), 2);
    x.back();
    due.is("the tape stays empty", x.about(8), 0);
    due.is("no fault", x.fault(0), 0);
    due.is("the text is gone", x.about(7), 2);
  }

  private static void lettersComeBack(Due due) {
    BoatsMoveOn x = some();
    x.pace(1);
    due.is("first", x.send(0, -1, 1), 1);
    due.is("second", x.send(0, -1, 20), 2);
    x.image();
    due.is("third", x.send(0, -1, 40), 3);
    x.back();
    due.is("about(10)", x.about(10), 2);
    due.is("about(20)", x.about(20), 20);
    Due.tell(x, "need 1;");
    x.pace(60);
    x.seen(0, 1, 1, 1);
    x.back();
    // Letters that were taken back and sent anew are the old ones again, days and rules too.
    BoatsMoveOn y = some();
    Due.tell(y, "need 3; stay 99;");
    y.seen(0, 0, 2, 2);
    y.pace(1);
    due.is("y first", y.send(0, -1, 10), 1);
    y.image();
    y.pace(10);
    y.seen(0, 1, 1, 11);
    y.seen(0, 0, 8, 11);
    due.is("y appeal", y.appeal(0, 11), 0);
    y.pace(1);
    due.is("y anew", y.send(0, 1, 9), 1);
    due.is("y about(20)", y.about(20), 9);
    y.back();
    due.is("y about(20)", y.about(20), 10);
    due.is("y about(10)", y.about(10), 1);
    y.pace(5);
    // 10 miles would do for the letter of day 9 (3), not for that of day 10 (20).
    due.is("y appeal by the old rule", y.appeal(0, 12), -1);
  }

  private static void waysComeBack(Due due) {
    BoatsMoveOn x = some();
    x.image();
    due.is("open", x.miles(0, 0, 1), 5);
    due.is("shut", x.miles(3, 0, 1), -1);
    x.shut(0, 0, 2);
    x.way(0, 1, 6);
    due.is("the other way", x.miles(0, 0, 1), 6);
    x.back();
    due.is("open again", x.miles(0, 0, 1), 5);
    due.is("shut again", x.miles(3, 0, 1), -1);
    x.seen(0, 1, 1, 1);
    due.is("by pace 5", x.known(0, 1, 2), 0);
    x.pace(4);
    due.is("by pace 4", x.known(0, 1, 2), 1);
    x.back();
    x.seen(0, 1, 1, 1);
    due.is("by pace 5 again", x.known(0, 1, 2), 0);
  }

  private static void abouts(Due due) {
    BoatsMoveOn x = some();
    more(x);
    int[] none = {-1, -2, 9, 13, 17, 18, 19, 23, 27, 28, 29, 30, 100};
    for (int what : none) {
      due.is("about(" + what + ")", x.about(what), -2);
    }
    due.is("about(MIN)", x.about(Integer.MIN_VALUE), -2);
    due.is("about(MAX)", x.about(Integer.MAX_VALUE), -2);
    due.is("about(12)", x.about(12), 0);
    due.is("about(22)", x.about(22), -1);
    for (int i = 0; i < 5; i++) {
      x.boat();
    }
    due.is("about(17)", x.about(17), 0);
    due.is("about(18)", x.about(18), -2);
    due.is("about(27)", x.about(27), -1);
    due.is("about(28)", x.about(28), -2);
    x.feed(0, 0, 0, 0, 0);
    due.is("about(8)", x.about(8), 20);
  }
}
