/** Promises 25 to 27: crowds, boats that were tied, plates that were swapped. */
public final class MeetingTest {
  private static final int[] WRONG = {-2, 60, Integer.MIN_VALUE, Integer.MAX_VALUE};

  public static void main(String[] args) {
    Due due = new Due("MeetingTest");
    crowds(due);
    ties(due);
    tiesOverDays(due);
    swaps(due);
    swapsOfOne(due);
    swapsSeenTwice(due);
    due.close();
  }

  /** Places 0 - 1 - 2 in a row, four miles from each to the next, a pace of four, three boats. */
  private static BoatsMoveOn row() {
    BoatsMoveOn x = new BoatsMoveOn();
    x.place(0);
    x.place(0);
    x.place(0);
    x.way(0, 1, 4);
    x.way(1, 2, 4);
    x.pace(4);
    x.boat();
    x.boat();
    x.boat();
    return x;
  }

  private static void crowds(Due due) {
    BoatsMoveOn x = row();
    due.is("nobody", x.crowd(0, 0, 59, 0), 0);
    due.is("nobody", x.crowd(0, 0, 59, 1), 0);
    x.seen(0, 1, 5, 5);
    x.seen(1, 1, 4, 4);
    x.seen(1, 1, 6, 6);
    x.seen(2, 0, 5, 9);
    due.is("sure at 1 on 5", x.crowd(1, 5, 6, 0), 1);
    due.is("perhaps at 1 on 5", x.crowd(1, 5, 6, 1), 2);
    due.is("sure at 0 on 5", x.crowd(0, 5, 6, 0), 0);
    due.is("perhaps at 0 on 5", x.crowd(0, 5, 6, 1), 1);
    due.is("sure at 0 as known on 9", x.crowd(0, 5, 9, 0), 1);
    due.is("perhaps at 0 as known on 9", x.crowd(0, 5, 9, 1), 2);
    due.is("on 4", x.crowd(1, 4, 9, 0), 1);
    due.is("on 7", x.crowd(1, 7, 9, 1), 0);
    x.seen(0, 2, 5, 9);
    due.is("an impossible one isn't there", x.crowd(1, 5, 9, 0), 0);
    due.is("an impossible one isn't there", x.crowd(1, 5, 9, 1), 1);
    due.is("nor anywhere", x.crowd(2, 5, 9, 0), 0);
    for (int w : WRONG) {
      due.is("crowd place " + w, x.crowd(w, 5, 9, 0), -1);
      due.is("crowd day " + w, x.crowd(1, w, 9, 0), -1);
      due.is("crowd k " + w, x.crowd(1, 5, w, 0), -1);
      due.is("crowd what " + w, x.crowd(1, 5, 9, w), -1);
    }
    due.is("crowd place 3", x.crowd(3, 5, 9, 0), -1);
    due.is("crowd place -1", x.crowd(-1, 5, 9, 0), -1);
    due.is("crowd day -1", x.crowd(1, -1, 9, 0), -1);
    due.is("crowd what 2", x.crowd(1, 5, 9, 2), -1);
    due.is("crowd what -1", x.crowd(1, 5, 9, -1), -1);
  }

  private static void ties(Due due) {
    BoatsMoveOn x = row();
    due.is("never seen", x.tied(0, 1, 59), -1);
    x.seen(0, 0, 5, 5);
    due.is("one never seen", x.tied(0, 1, 59), -1);
    due.is("one never seen", x.tied(1, 0, 59), -1);
    x.seen(1, 0, 6, 6);
    due.is("no common day", x.tied(0, 1, 6), -1);
    x.seen(1, 2, 5, 7);
    due.is("not known yet", x.tied(0, 1, 6), -1);
    due.is("impossible", x.tied(0, 1, 7), -1);
    due.is("impossible", x.tied(1, 0, 7), -1);
    BoatsMoveOn y = row();
    y.seen(0, 1, 5, 5);
    y.seen(1, 1, 5, 5);
    y.seen(2, 2, 5, 5);
    due.is("one day, one place", y.tied(0, 1, 5), 1);
    due.is("one day, two places", y.tied(0, 2, 5), 0);
    due.is("not known yet", y.tied(0, 1, 4), -1);
    due.is("one and the same", y.tied(0, 0, 5), -1);
    due.is("boat 3", y.tied(0, 3, 5), -1);
    due.is("boat 3", y.tied(3, 0, 5), -1);
    due.is("boat -1", y.tied(0, -1, 5), -1);
    due.is("boat -1", y.tied(-1, 0, 5), -1);
    for (int w : WRONG) {
      due.is("tied boat " + w, y.tied(w, 1, 5), -1);
      due.is("tied boat " + w, y.tied(0, w, 5), -1);
      due.is("tied k " + w, y.tied(0, 1, w), -1);
    }
  }

  private static void tiesOverDays(Due due) {
    BoatsMoveOn x = row();
    x.seen(0, 0, 0, 0);
    x.seen(0, 2, 6, 6);
    x.seen(1, 0, 2, 2);
    x.seen(1, 2, 9, 9);
    due.is("0 from 0 to 6, 1 from 2 to 9", x.tied(0, 1, 9), 1);
    x.seen(1, 0, 4, 10);
    due.is("both wait until 4", x.tied(0, 1, 10), 1);
    x.seen(1, 0, 5, 11);
    due.is("too late for 2 on 6", x.tied(0, 1, 11), 0);
    // They could meet on each day, but not by one journey: 0 or 2 on a day, never over 1.
    BoatsMoveOn y = new BoatsMoveOn();
    for (int i = 0; i < 4; i++) {
      y.place(0);
    }
    // 0 and 1 on the left, 2 and 3 on the right; all are near one another on day 1 and 3 only.
    y.way(0, 1, 1);
    y.way(2, 3, 1);
    y.way(1, 2, 1);
    y.shut(2, 2, 2);
    y.pace(3);
    y.boat();
    y.boat();
    y.seen(0, 0, 0, 0);
    y.seen(0, 0, 3, 3);
    y.seen(1, 3, 0, 0);
    y.seen(1, 0, 3, 3);
    due.is("apart on the first day", y.tied(0, 1, 3), 0);
    BoatsMoveOn z = row();
    z.seen(0, 0, 0, 0);
    z.seen(0, 0, 4, 4);
    z.seen(1, 1, 1, 1);
    z.seen(1, 1, 3, 3);
    due.is("1, then 0, 1 or 2, then 1", z.tied(0, 1, 4), 1);
    z.seen(0, 2, 2, 5);
    due.is("over 2", z.tied(0, 1, 5), 1);
    z.seen(1, 0, 2, 6);
    due.is("one at 2, one at 0", z.tied(0, 1, 6), 0);
    // On each day alone they could be together, but the places can't be joined.
    BoatsMoveOn w = row();
    w.shut(0, 2, 3);
    w.shut(1, 2, 3);
    w.seen(0, 1, 0, 0);
    w.seen(0, 1, 4, 4);
    w.seen(1, 1, 0, 0);
    w.seen(1, 1, 4, 4);
    due.is("free", w.tied(0, 1, 4), 1);
    w.seen(0, 0, 1, 5);
    w.seen(1, 2, 3, 5);
    due.is("0 on 1 and 2 on 3, shut between", w.tied(0, 1, 5), 0);
  }

  private static void swaps(Due due) {
    BoatsMoveOn x = row();
    due.is("never seen", x.swapped(0, 1, 59, -1), 0);
    due.is("never seen", x.swapped(0, 1, 59, 0), -1);
    x.seen(0, 0, 0, 0);
    x.seen(0, 2, 1, 1);
    x.seen(0, 0, 2, 2);
    x.seen(1, 2, 0, 0);
    x.seen(1, 0, 1, 1);
    x.seen(1, 2, 2, 2);
    due.is("exchanged on day 1 alone", x.swapped(0, 1, 2, -1), 1);
    due.is("the day", x.swapped(0, 1, 2, 0), 1);
    due.is("no second", x.swapped(0, 1, 2, 1), -1);
    due.is("the other way round", x.swapped(1, 0, 2, 0), 1);
    due.is("as known on 1: two days", x.swapped(0, 1, 1, -1), 2);
    due.is("as known on 1: first", x.swapped(0, 1, 1, 0), 0);
    due.is("as known on 1: second", x.swapped(0, 1, 1, 1), 1);
    due.is("as known on 1: third", x.swapped(0, 1, 1, 2), -1);
    due.is("as known on 0: nothing is wrong", x.swapped(0, 1, 0, -1), 0);
    due.is("as known on 0: nothing is wrong", x.swapped(0, 1, 0, 0), -1);
    due.is("asking leaves all as it was", x.known(0, 2, 2), 1);
    due.is("with one never seen", x.swapped(0, 2, 2, -1), 0);
    due.is("one and the same", x.swapped(1, 1, 2, -1), -1);
    due.is("i -2", x.swapped(0, 1, 2, -2), -1);
    due.is("boat 3", x.swapped(0, 3, 2, -1), -1);
    due.is("boat 3", x.swapped(3, 0, 2, -1), -1);
    due.is("boat -1", x.swapped(-1, 0, 2, -1), -1);
    due.is("boat -1", x.swapped(0, -1, 2, -1), -1);
    due.is("k -1", x.swapped(0, 1, -1, -1), -1);
    for (int w : WRONG) {
      due.is("swapped boat " + w, x.swapped(w, 1, 2, -1), -1);
      due.is("swapped boat " + w, x.swapped(0, w, 2, -1), -1);
      due.is("swapped k " + w, x.swapped(0, 1, w, -1), -1);
      due.is("swapped i " + w, x.swapped(0, 1, 2, w), -1);
    }
  }

  private static void swapsOfOne(Due due) {
    // Boat 0 alone is impossible; boat 1 would be fine either way.
    BoatsMoveOn x = row();
    x.seen(0, 0, 0, 0);
    x.seen(0, 2, 1, 1);
    x.seen(1, 1, 1, 1);
    due.is("one of them is enough", x.swapped(0, 1, 1, -1), 1);
    due.is("the day", x.swapped(0, 1, 1, 0), 1);
    x.seen(1, 0, 2, 2);
    due.is("then boat 1 would be impossible", x.swapped(0, 1, 2, -1), 0);
    due.is("not known on 1", x.swapped(1, 0, 1, -1), 1);
    // Days on which only one was seen don't count.
    BoatsMoveOn y = row();
    y.seen(0, 0, 0, 0);
    y.seen(0, 2, 1, 1);
    y.seen(1, 1, 2, 2);
    due.is("not on one day", y.swapped(0, 1, 2, -1), 0);
  }

  private static void swapsSeenTwice(Due due) {
    // Seen at two places on a day: whoever has both that day is impossible.
    BoatsMoveOn x = row();
    x.seen(0, 0, 3, 3);
    x.seen(0, 1, 3, 3);
    x.seen(1, 2, 3, 3);
    due.is("the other one would be it", x.swapped(0, 1, 3, -1), 0);
    BoatsMoveOn y = row();
    y.seen(0, 0, 0, 0);
    y.seen(0, 2, 1, 1);
    y.seen(0, 2, 1, 1);
    y.seen(1, 0, 1, 1);
    due.is("twice at one place is one", y.swapped(0, 1, 1, -1), 1);
    // Only one place is told: seen there and exchanged, nothing changes.
    BoatsMoveOn z = new BoatsMoveOn();
    z.place(0);
    z.boat();
    z.boat();
    z.seen(0, 0, 0, 0);
    z.seen(1, 0, 0, 0);
    due.is("nobody is impossible", z.swapped(0, 1, 0, -1), 0);
  }
}
