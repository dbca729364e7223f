/** Promises 1 to 6 and 13: a new object, places, ways, shut ways, the pace, boats and miles. */
public final class CanalTest {
  private static final int MIN = Integer.MIN_VALUE;
  private static final int MAX = Integer.MAX_VALUE;

  public static void main(String[] args) {
    Due due = new Due("CanalTest");
    newObject(due);
    places(due);
    ways(due);
    shuts(due);
    paces(due);
    boats(due);
    miles(due);
    milesOfEachDay(due);
    due.close();
  }

  private static void newObject(Due due) {
    BoatsMoveOn x = new BoatsMoveOn();
    int[] want = {0, 0, 0, 10, 0, 0, 0, 0, 0};
    for (int what = 0; what < want.length; what++) {
      due.is("new: about(" + what + ")", x.about(what), want[what]);
    }
    due.is("new: fault(0)", x.fault(0), -1);
    due.is("new: fault(1)", x.fault(1), -1);
    due.is("new: miles", x.miles(-1, 0, 0), -1);
    due.is("new: round", x.round(-1, 0), -1);
    due.is("new: may", x.may(0, 0, 0), -1);
    due.is("new: crowd", x.crowd(0, 0, 0, 0), -1);
    due.is("new: appeal", x.appeal(0, 0), -1);
    x.place(0);
    x.boat();
    x.pace(33);
    x.seen(0, 0, 0, 0);
    due.is("new: back()", x.back(), 0);
    for (int what = 0; what < want.length; what++) {
      due.is("new, back: about(" + what + ")", x.about(what), want[what]);
    }
    BoatsMoveOn y = new BoatsMoveOn();
    x.place(4);
    due.is("two objects share nothing", y.about(0), 0);
  }

  private static void places(Due due) {
    BoatsMoveOn x = new BoatsMoveOn();
    for (int parish : new int[] {-1, 10, 11, MIN, MAX}) {
      due.is("place(" + parish + ")", x.place(parish), -1);
    }
    for (int i = 0; i < 10; i++) {
      due.is("place " + i, x.place(9 - i), i);
      due.is("about(0)", x.about(0), i + 1);
    }
    due.is("an 11th place", x.place(0), -1);
    due.is("about(0)", x.about(0), 10);
    // The parishes are those that were told, seen by a rule.
    Due.tell(x, "near parish + theirs = 9;");
    for (int i = 0; i < 10; i++) {
      due.is("round(0, " + i + ")", x.round(0, i), 1 << i | 1 << (9 - i));
    }
  }

  private static void ways(Due due) {
    BoatsMoveOn x = new BoatsMoveOn();
    due.is("way without places", x.way(0, 1, 5), -1);
    x.place(0);
    x.place(0);
    x.place(0);
    due.is("way(0, 0, 5)", x.way(0, 0, 5), -1);
    due.is("way(0, 3, 5)", x.way(0, 3, 5), -1);
    due.is("way(3, 0, 5)", x.way(3, 0, 5), -1);
    due.is("way(-1, 0, 5)", x.way(-1, 0, 5), -1);
    due.is("way(0, -1, 5)", x.way(0, -1, 5), -1);
    for (int miles : new int[] {0, -1, 31, MIN, MAX}) {
      due.is("way of " + miles, x.way(0, 1, miles), -1);
    }
    due.is("about(1)", x.about(1), 0);
    due.is("way of 1", x.way(0, 1, 1), 0);
    due.is("way of 30", x.way(2, 1, 30), 1);
    for (int i = 2; i < 15; i++) {
      due.is("way " + i, x.way(0, 1, 2), i);
    }
    due.is("a 16th way", x.way(0, 1, 2), -1);
    due.is("about(1)", x.about(1), 15);
  }

  private static void shuts(Due due) {
    BoatsMoveOn x = new BoatsMoveOn();
    due.is("shut without ways", x.shut(0, 0, 0), -1);
    x.place(0);
    x.place(0);
    x.way(0, 1, 5);
    due.is("shut(1, 0, 1)", x.shut(1, 0, 1), -1);
    due.is("shut(-1, 0, 1)", x.shut(-1, 0, 1), -1);
    due.is("shut(0, -1, 1)", x.shut(0, -1, 1), -1);
    due.is("shut(0, 0, 60)", x.shut(0, 0, 60), -1);
    due.is("shut(0, 60, 60)", x.shut(0, 60, 60), -1);
    due.is("shut(0, 5, 4)", x.shut(0, 5, 4), -1);
    due.is("shut(0, MIN, MAX)", x.shut(0, MIN, MAX), -1);
    due.is("about(2)", x.about(2), 0);
    due.is("shut(0, 59, 59)", x.shut(0, 59, 59), 1);
    due.is("shut(0, 0, 0)", x.shut(0, 0, 0), 2);
    for (int i = 3; i <= 10; i++) {
      due.is("shut " + i, x.shut(0, 10, 20), i);
    }
    due.is("an 11th shut", x.shut(0, 1, 2), -1);
    due.is("about(2)", x.about(2), 10);
    due.is("miles(0, 0, 1)", x.miles(0, 0, 1), -1);
    due.is("miles(1, 0, 1)", x.miles(1, 0, 1), 5);
    due.is("miles(9, 0, 1)", x.miles(9, 0, 1), 5);
    due.is("miles(10, 0, 1)", x.miles(10, 0, 1), -1);
    due.is("miles(20, 0, 1)", x.miles(20, 0, 1), -1);
    due.is("miles(21, 0, 1)", x.miles(21, 0, 1), 5);
    due.is("miles(59, 0, 1)", x.miles(59, 0, 1), -1);
  }

  private static void paces(Due due) {
    BoatsMoveOn x = new BoatsMoveOn();
    for (int pace : new int[] {0, -1, 61, MIN, MAX}) {
      due.is("pace(" + pace + ")", x.pace(pace), false);
      due.is("about(3)", x.about(3), 10);
    }
    due.is("pace(1)", x.pace(1), true);
    due.is("about(3)", x.about(3), 1);
    due.is("pace(60)", x.pace(60), true);
    due.is("about(3)", x.about(3), 60);
    x.place(0);
    x.place(0);
    x.way(0, 1, 7);
    x.boat();
    x.seen(0, 0, 3, 3);
    x.seen(0, 1, 4, 4);
    due.is("7 miles at a pace of 60", x.known(0, 4, 2), 0);
    x.pace(6);
    due.is("7 miles at a pace of 6", x.known(0, 4, 2), 1);
    x.pace(7);
    due.is("7 miles at a pace of 7", x.known(0, 4, 2), 0);
  }

  private static void boats(Due due) {
    BoatsMoveOn x = new BoatsMoveOn();
    for (int i = 0; i < 8; i++) {
      due.is("about(1" + i + ") ahead", x.about(10 + i), -2);
      due.is("boat " + i, x.boat(), i);
      due.is("about(4)", x.about(4), i + 1);
    }
    due.is("a 9th boat", x.boat(), -1);
    due.is("about(4)", x.about(4), 8);
  }

  private static void miles(Due due) {
    BoatsMoveOn x = new BoatsMoveOn();
    for (int i = 0; i < 5; i++) {
      x.place(0);
    }
    x.way(0, 1, 30);
    due.is("one way", x.miles(-1, 1, 0), 30);
    x.way(0, 2, 10);
    x.way(2, 3, 9);
    x.way(3, 1, 8);
    due.is("the way round is shorter", x.miles(-1, 0, 1), 27);
    x.way(1, 0, 26);
    due.is("of two ways the shorter one", x.miles(-1, 0, 1), 26);
    due.is("the other one is still there", x.miles(-1, 0, 3), 19);
    due.is("one and the same", x.miles(-1, 4, 4), 0);
    due.is("no way", x.miles(-1, 4, 0), -1);
    due.is("miles(-2, 0, 1)", x.miles(-2, 0, 1), -1);
    due.is("miles(60, 0, 1)", x.miles(60, 0, 1), -1);
    due.is("miles(0, 5, 1)", x.miles(0, 5, 1), -1);
    due.is("miles(0, 1, 5)", x.miles(0, 1, 5), -1);
    due.is("miles(0, -1, 1)", x.miles(0, -1, 1), -1);
    due.is("miles(0, 1, -1)", x.miles(0, 1, -1), -1);
    due.is("miles(MIN, MAX, MIN)", x.miles(MIN, MAX, MIN), -1);
    // A long chain: nine ways of 30 miles.
    BoatsMoveOn y = new BoatsMoveOn();
    y.place(0);
    for (int i = 1; i < 10; i++) {
      y.place(0);
      y.way(i, i - 1, 30);
    }
    due.is("nine ways", y.miles(0, 0, 9), 270);
    due.is("nine ways back", y.miles(0, 9, 0), 270);
  }

  /** Ten spans of ten ways, each within the one ahead of it. */
  private static void milesOfEachDay(Due due) {
    BoatsMoveOn x = new BoatsMoveOn();
    x.place(0);
    x.place(0);
    for (int i = 0; i < 10; i++) {
      x.way(0, 1, 10 + i);
      x.shut(i, 2 + 2 * i, 58 - 3 * i);
    }
    for (int day = 0; day < 60; day++) {
      int want = -1;
      for (int i = 9; i >= 0; i--) {
        want = day >= 2 + 2 * i && day <= 58 - 3 * i ? want : 10 + i;
      }
      due.is("miles(" + day + ", 0, 1)", x.miles(day, 0, 1), want);
    }
    due.is("nothing being shut", x.miles(-1, 0, 1), 10);
  }
}
