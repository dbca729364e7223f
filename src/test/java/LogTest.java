/** Promises 7 and 8: what was seen, and excuses; and from which day on each is known. */
public final class LogTest {
  private static final int MIN = Integer.MIN_VALUE;
  private static final int MAX = Integer.MAX_VALUE;

  public static void main(String[] args) {
    Due due = new Due("LogTest");
    wrongSightings(due);
    sixtySightings(due);
    tellingLate(due);
    wrongExcuses(due);
    twentyExcuses(due);
    provingLate(due);
    due.close();
  }

  private static BoatsMoveOn twoPlacesOneBoat() {
    BoatsMoveOn x = new BoatsMoveOn();
    x.place(0);
    x.place(0);
    x.way(0, 1, 5);
    x.boat();
    return x;
  }

  private static void wrongSightings(Due due) {
    due.is("seen of nothing", new BoatsMoveOn().seen(0, 0, 0, 0), -1);
    BoatsMoveOn x = twoPlacesOneBoat();
    due.is("seen(1, 0, 0, 0)", x.seen(1, 0, 0, 0), -1);
    due.is("seen(-1, 0, 0, 0)", x.seen(-1, 0, 0, 0), -1);
    due.is("seen(0, 2, 0, 0)", x.seen(0, 2, 0, 0), -1);
    due.is("seen(0, -1, 0, 0)", x.seen(0, -1, 0, 0), -1);
    due.is("seen(0, 0, -1, 0)", x.seen(0, 0, -1, 0), -1);
    due.is("seen(0, 0, 60, 60)", x.seen(0, 0, 60, 60), -1);
    due.is("seen(0, 0, 59, 60)", x.seen(0, 0, 59, 60), -1);
    due.is("seen(0, 0, 59, 58)", x.seen(0, 0, 59, 58), -1);
    due.is("seen(MIN, MAX, MIN, MAX)", x.seen(MIN, MAX, MIN, MAX), -1);
    due.is("about(5)", x.about(5), 0);
    due.is("seen(0, 1, 59, 59)", x.seen(0, 1, 59, 59), 1);
    due.is("seen(0, 0, 0, 59)", x.seen(0, 0, 0, 59), 2);
  }

  private static void sixtySightings(Due due) {
    BoatsMoveOn x = twoPlacesOneBoat();
    for (int i = 0; i < 60; i++) {
      due.is("seen " + i, x.seen(0, 0, i, i), i + 1);
    }
    due.is("a 61st", x.seen(0, 0, 1, 1), -1);
    due.is("about(5)", x.about(5), 60);
    due.is("known(0, 59, 1)", x.known(0, 59, 1), 59);
    due.is("known(0, 58, 1)", x.known(0, 58, 1), 58);
  }

  private static void tellingLate(Due due) {
    BoatsMoveOn x = twoPlacesOneBoat();
    x.seen(0, 0, 10, 10);
    x.seen(0, 1, 14, 20);
    x.seen(0, 0, 5, 30);
    due.is("ahead of the first", x.known(0, 9, 0), -1);
    due.is("known(0, 10, 0)", x.known(0, 10, 0), 10);
    due.is("known(0, 19, 1)", x.known(0, 19, 1), 10);
    due.is("known(0, 20, 1)", x.known(0, 20, 1), 14);
    due.is("known(0, 29, 0)", x.known(0, 29, 0), 10);
    due.is("known(0, 30, 0)", x.known(0, 30, 0), 5);
    due.is("may(0, 12, 19)", x.may(0, 12, 19), 0);
    due.is("may(0, 12, 20)", x.may(0, 12, 20), 3);
    due.is("may(0, 7, 29)", x.may(0, 7, 29), 0);
    due.is("may(0, 7, 30)", x.may(0, 7, 30), 3);
  }

  private static void wrongExcuses(Due due) {
    due.is("excuse of nothing", new BoatsMoveOn().excuse(0, 0, 0, 0), -1);
    BoatsMoveOn x = twoPlacesOneBoat();
    due.is("excuse(1, 0, 0, 0)", x.excuse(1, 0, 0, 0), -1);
    due.is("excuse(-1, 0, 0, 0)", x.excuse(-1, 0, 0, 0), -1);
    due.is("excuse(0, 1, 0, 0)", x.excuse(0, 1, 0, 0), -1);
    due.is("excuse(0, -1, 0, 0)", x.excuse(0, -1, 0, 0), -1);
    due.is("excuse(0, 0, 60, 0)", x.excuse(0, 0, 60, 0), -1);
    due.is("excuse(0, 0, 0, -1)", x.excuse(0, 0, 0, -1), -1);
    due.is("excuse(0, 0, 0, 60)", x.excuse(0, 0, 0, 60), -1);
    due.is("excuse(MAX, MIN, MAX, MIN)", x.excuse(MAX, MIN, MAX, MIN), -1);
    due.is("about(6)", x.about(6), 0);
    due.is("proved ahead of it", x.excuse(0, 30, 40, 0), 1);
    due.is("excuse(0, 0, 59, 59)", x.excuse(0, 0, 59, 59), 2);
  }

  private static void twentyExcuses(Due due) {
    BoatsMoveOn x = twoPlacesOneBoat();
    x.seen(0, 0, 0, 0);
    x.seen(0, 0, 59, 59);
    x.pace(1);
    for (int i = 0; i < 20; i++) {
      due.is("excuse " + i, x.excuse(0, 2 * i, 2 * i, 0), i + 1);
      due.is("longest", x.longest(0, 0, -1, 59, 1), 59 - i);
    }
    due.is("a 21st", x.excuse(0, 1, 1, 0), -1);
    due.is("about(6)", x.about(6), 20);
    due.is("longest", x.longest(0, 0, -1, 59, 1), 40);
  }

  private static void provingLate(Due due) {
    BoatsMoveOn x = twoPlacesOneBoat();
    x.boat();
    x.pace(1);
    x.seen(0, 0, 0, 0);
    x.seen(0, 0, 9, 9);
    x.excuse(1, 0, 9, 0);
    due.is("another boat's excuse", x.longest(0, 0, -1, 9, 1), 10);
    x.excuse(0, 3, 5, 12);
    due.is("not proved yet", x.longest(0, 0, -1, 11, 1), 10);
    due.is("proved", x.longest(0, 0, -1, 12, 1), 7);
    x.excuse(0, 5, 59, 0);
    due.is("days that two excuses have", x.longest(0, 0, -1, 12, 1), 3);
    due.is("only the one proved early", x.longest(0, 0, -1, 11, 0), 5);
  }
}
