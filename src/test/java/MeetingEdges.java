/** Boundary cases of crowds, boats that were tied and plates that were swapped: 25 to 27. */
final class MeetingEdges {
  private static final int MIN = Scene.MIN;
  private static final int MAX = Scene.MAX;

  private static final String CROWD =
      "CROWD at a PLACE on a DAY, as known: BOATS that MAY be nowhere else then, and BOATS that MAY"
          + " be there.";
  private static final String TIED =
      "TIED: two BOATS could have been at one PLACE on each DAY that JOURNEYS of both have (one at"
          + " least), JOURNEYS being of each.";
  private static final String TIED_NONE =
      "NONE: no common DAY, one is IMPOSSIBLE or never SEEN, and for others (one and the same).";
  private static final String SWAPPED =
      "SWAPPED: DAYS on which both were SEEN, for which, their PLACES on that DAY being exchanged,"
          + " neither is IMPOSSIBLE, one of them (or both) being so as it is.";
  private static final String SWAPPED_NONE =
      "NONE if there is none such, and for others (one and the same).";

  private MeetingEdges() {}

  static void addTo(Edges edges) {
    edges.term(CROWD, MeetingEdges::nowhereElse);
    edges.promise(
        25,
        "CROWD: 0 those that MAY be nowhere else, 1 those that MAY be there.",
        MeetingEdges::noneToEight);
    edges.promise(25, "NONE for others.", MeetingEdges::wrongCrowds);
    edges.term(TIED, MeetingEdges::oneCommonDay);
    edges.term(TIED, MeetingEdges::onEachCommonDay);
    edges.term(TIED, MeetingEdges::journeysOfEach);
    edges.promise(26, "TIED (1, 0).", MeetingEdges::tiedOrNot);
    edges.promise(26, TIED_NONE, MeetingEdges::noCommonDay);
    edges.promise(26, TIED_NONE, MeetingEdges::impossibleOrNever);
    edges.promise(26, TIED_NONE, MeetingEdges::wrongTies);
    edges.term(SWAPPED, MeetingEdges::bothWereSeen);
    edges.term(SWAPPED, MeetingEdges::neitherIsImpossible);
    edges.term(SWAPPED, MeetingEdges::oneIsSoAsItIs);
    edges.term(SWAPPED, MeetingEdges::allPlacesOfTheDay);
    edges.promise(
        27, "SWAPPED: how many DAYS (i NONE), the i-th.", MeetingEdges::howManyAndTheIth);
    edges.promise(27, SWAPPED_NONE, MeetingEdges::noneSuch);
    edges.promise(27, SWAPPED_NONE, MeetingEdges::wrongSwaps);
  }

  private static void crowd(Due due, BoatsMoveOn x, int place, int day, int sure, int perhaps) {
    String call = "crowd(" + place + ", " + day + ", 59, ";
    due.is(call + "0)", x.crowd(place, day, 59, 0), sure);
    due.is(call + "1)", x.crowd(place, day, 59, 1), perhaps);
  }

  private static void nowhereElse(Due due) {
    BoatsMoveOn x = Scene.row(2, 4, 4, 4);
    x.seen(0, 0, 10, 10);
    x.seen(1, 0, 9, 9);
    x.seen(1, 0, 11, 11);
    x.seen(2, 0, 11, 11);
    Scene.seenDaily(x, 3, 9, 0, 1, 0);
    // On 10: boat 0 is at 0, boat 1 at 0 or 1, boat 2 nowhere yet, boat 3 at 1.
    crowd(due, x, 0, 10, 1, 2);
    crowd(due, x, 1, 10, 1, 2);
    crowd(due, x, 0, 9, 2, 2);
    crowd(due, x, 0, 11, 3, 3);
    crowd(due, x, 0, 8, 0, 0);
    crowd(due, x, 0, 12, 0, 0);
    due.is("as known on 9, on 10", x.crowd(0, 10, 9, 1), 0);
    due.is("as known on 10, on 10", x.crowd(0, 10, 10, 0), 1);
    x.seen(0, 1, 10, 59);
    // Boat 0 is impossible now: it may be nowhere.
    crowd(due, x, 0, 10, 0, 1);
    crowd(due, x, 1, 10, 1, 2);
  }

  private static void noneToEight(Due due) {
    BoatsMoveOn x = Scene.row(10, 1, 1, 8);
    crowd(due, x, 9, 0, 0, 0);
    for (int boat = 0; boat < 8; boat++) {
      x.seen(boat, 9, 59, 59);
      crowd(due, x, 9, 59, boat + 1, boat + 1);
      crowd(due, x, 8, 59, 0, 0);
    }
    for (int boat = 0; boat < 8; boat++) {
      x.seen(boat, 9, 57, 59);
      crowd(due, x, 8, 58, 0, boat + 1);
    }
    BoatsMoveOn y = Scene.row(1, 1, 1, 0);
    crowd(due, y, 0, 0, 0, 0);
  }

  private static void wrongCrowds(Due due) {
    BoatsMoveOn x = Scene.still(1);
    x.seen(0, 0, 0, 0);
    for (int place : new int[] {-1, 2, 10, 32, MIN, MAX}) {
      due.is("crowd(" + place + ", 0, 0, 0)", x.crowd(place, 0, 0, 0), -1);
    }
    for (int day : Scene.NO_DAYS) {
      due.is("crowd(0, " + day + ", 0, 0)", x.crowd(0, day, 0, 0), -1);
      due.is("crowd(0, 0, " + day + ", 0)", x.crowd(0, 0, day, 0), -1);
    }
    for (int what : new int[] {-1, 2, MIN, MAX}) {
      due.is("crowd(0, 0, 0, " + what + ")", x.crowd(0, 0, 0, what), -1);
    }
  }

  /** Both ways round: which of both is named first is all one. */
  private static void tied(Due due, String when, BoatsMoveOn x, int k, int want) {
    due.is(when + ": tied(0, 1, " + k + ")", x.tied(0, 1, k), want);
    due.is(when + ": tied(1, 0, " + k + ")", x.tied(1, 0, k), want);
  }

  private static void oneCommonDay(Due due) {
    BoatsMoveOn x = Scene.row(3, 4, 8, 2);
    x.seen(0, 0, 5, 5);
    x.seen(0, 1, 10, 10);
    x.seen(1, 1, 11, 11);
    x.seen(1, 0, 20, 20);
    tied(due, "the last day is one ahead of the first", x, 59, -1);
    x.image();
    x.seen(1, 1, 10, 30);
    tied(due, "the last day is the first, at one place", x, 30, 1);
    tied(due, "not known on 29", x, 29, -1);
    x.back();
    x.seen(1, 2, 10, 30);
    tied(due, "the last day is the first, at two places", x, 30, 0);
  }

  private static void onEachCommonDay(Due due) {
    BoatsMoveOn x = Scene.row(3, 4, 4, 2);
    x.seen(0, 0, 0, 0);
    x.seen(0, 0, 6, 6);
    x.seen(1, 0, 2, 2);
    x.seen(1, 0, 8, 8);
    tied(due, "both may wait at 0", x, 8, 1);
    x.image();
    x.seen(1, 1, 6, 9);
    tied(due, "apart on the last common day alone", x, 9, 0);
    x.back();
    x.seen(0, 1, 2, 9);
    tied(due, "apart on the first common day alone", x, 9, 0);
    x.back();
    x.seen(0, 1, 4, 9);
    x.seen(1, 0, 4, 9);
    tied(due, "apart on a day between", x, 9, 0);
    x.back();
    x.seen(0, 1, 1, 9);
    x.seen(1, 1, 7, 9);
    tied(due, "what isn't common doesn't matter", x, 9, 1);
    BoatsMoveOn y = Scene.row(4, 4, 4, 2);
    Scene.seenDaily(y, 0, 10, 0, 1, 2, 3);
    Scene.seenDaily(y, 1, 10, 0, 1, 2, 3);
    tied(due, "at another place on each day", y, 59, 1);
    BoatsMoveOn z = Scene.row(4, 4, 4, 2);
    z.seen(0, 0, 10, 10);
    z.seen(0, 3, 14, 14);
    z.seen(1, 0, 10, 10);
    z.seen(1, 3, 13, 13);
    tied(due, "moving on together", z, 59, 1);
  }

  private static void journeysOfEach(Due due) {
    // 0 and 2 are both common on 1 and on 3, but the ways between are shut.
    BoatsMoveOn x = Scene.row(3, 4, 4, 2);
    x.seen(0, 1, 0, 0);
    x.seen(0, 1, 4, 4);
    x.seen(1, 1, 0, 0);
    x.seen(1, 1, 4, 4);
    x.shut(0, 2, 3);
    x.shut(1, 2, 3);
    tied(due, "by any of the three", x, 4, 1);
    x.seen(0, 0, 1, 5);
    x.seen(1, 2, 3, 5);
    tied(due, "0 must stay at 0, 1 must have been at 2", x, 5, 0);
    // Journeys of each have all its days: where it must be ahead of the common ones counts.
    BoatsMoveOn y = Scene.row(3, 4, 4, 2);
    y.seen(0, 0, 0, 0);
    y.seen(0, 0, 2, 2);
    y.seen(1, 2, 1, 1);
    tied(due, "0 can't be at 2 on 1 and back on 2", y, 2, 0);
    y.pace(8);
    tied(due, "by a greater pace it can", y, 2, 1);
  }

  private static void tiedOrNot(Due due) {
    BoatsMoveOn x = Scene.row(2, 4, 4, 8);
    x.seen(0, 0, 0, 0);
    x.seen(7, 0, 0, 0);
    x.seen(6, 1, 0, 0);
    due.is("1", x.tied(0, 7, 0), 1);
    due.is("0", x.tied(0, 6, 0), 0);
    due.is("0", x.tied(6, 7, 59), 0);
    due.is("1", x.tied(7, 0, 59), 1);
  }

  private static void noCommonDay(Due due) {
    BoatsMoveOn x = Scene.still(2);
    x.seen(0, 0, 0, 0);
    x.seen(1, 0, 59, 59);
    tied(due, "the first and the last of all days", x, 59, -1);
    x.seen(0, 0, 58, 58);
    tied(due, "one day is missing", x, 59, -1);
    x.seen(0, 0, 59, 59);
    tied(due, "now it isn't", x, 59, 1);
  }

  private static void impossibleOrNever(Due due) {
    BoatsMoveOn x = Scene.still(2);
    tied(due, "neither was seen", x, 59, -1);
    x.seen(0, 0, 10, 10);
    tied(due, "one was never seen", x, 59, -1);
    x.seen(1, 0, 10, 12);
    tied(due, "not known yet", x, 11, -1);
    tied(due, "known", x, 12, 1);
    x.seen(1, 1, 11, 13);
    tied(due, "one is impossible", x, 13, -1);
    x.seen(0, 1, 11, 14);
    tied(due, "both are impossible", x, 14, -1);
    // Behind two that could be told of, too.
    BoatsMoveOn y = Scene.still(3);
    y.seen(0, 0, 10, 10);
    y.seen(1, 0, 10, 10);
    due.is("tied", y.tied(0, 1, 59), 1);
    due.is("one was never seen", y.tied(0, 2, 59), -1);
    due.is("one was never seen", y.tied(2, 0, 59), -1);
    tied(due, "neither is known on 9", y, 9, -1);
  }

  private static void wrongTies(Due due) {
    BoatsMoveOn x = Scene.still(2);
    x.seen(0, 0, 0, 0);
    x.seen(1, 0, 0, 0);
    due.is("one and the same", x.tied(0, 0, 0), -1);
    due.is("one and the same", x.tied(1, 1, 0), -1);
    for (int boat : new int[] {-1, 2, 8, MIN, MAX}) {
      due.is("tied(0, " + boat + ", 0)", x.tied(0, boat, 0), -1);
      due.is("tied(" + boat + ", 0, 0)", x.tied(boat, 0, 0), -1);
      due.is("tied(" + boat + ", " + boat + ", 0)", x.tied(boat, boat, 0), -1);
    }
    for (int k : Scene.NO_DAYS) {
      due.is("tied(0, 1, " + k + ")", x.tied(0, 1, k), -1);
    }
  }

  /** Both ways round, and each of the days. */
  private static void swapped(Due due, String when, BoatsMoveOn x, int k, int... days) {
    for (int one = 0; one <= 1; one++) {
      String call = when + ": swapped(" + one + ", " + (1 - one) + ", " + k + ", ";
      due.is(call + "-1)", x.swapped(one, 1 - one, k, -1), days.length);
      for (int i = 0; i < days.length; i++) {
        due.is(call + i + ")", x.swapped(one, 1 - one, k, i), days[i]);
      }
      due.is(call + days.length + ")", x.swapped(one, 1 - one, k, days.length), -1);
    }
  }

  private static void bothWereSeen(Due due) {
    BoatsMoveOn x = Scene.still(2);
    Scene.seenDaily(x, 0, 10, 0, 1, 0);
    Scene.seenDaily(x, 1, 10, 1);
    x.seen(1, 1, 12, 12);
    swapped(due, "not both were seen on 11", x, 59);
    x.seen(1, 0, 11, 20);
    swapped(due, "both were", x, 20, 11);
    swapped(due, "not known yet", x, 19);
    BoatsMoveOn y = Scene.still(2);
    swapped(due, "never seen", y, 59);
    Scene.seenDaily(y, 0, 10, 0, 1);
    swapped(due, "one was never seen", y, 59);
  }

  private static void neitherIsImpossible(Due due) {
    BoatsMoveOn x = Scene.still(2);
    Scene.seenDaily(x, 0, 10, 0, 1);
    Scene.seenDaily(x, 1, 10, 1, 0);
    swapped(due, "either day", x, 59, 10, 11);
    x.seen(0, 0, 12, 12);
    swapped(due, "the second day alone", x, 59, 11);
    x.seen(1, 0, 12, 13);
    swapped(due, "then the other would be impossible", x, 13);
    swapped(due, "as known on 12", x, 12, 11);
  }

  private static void oneIsSoAsItIs(Due due) {
    BoatsMoveOn x = Scene.row(2, 5, 5, 2);
    Scene.seenDaily(x, 0, 10, 0, 1);
    Scene.seenDaily(x, 1, 10, 1, 0);
    swapped(due, "neither is impossible", x, 59);
    x.pace(4);
    swapped(due, "both are", x, 59, 10, 11);
    BoatsMoveOn y = Scene.still(2);
    Scene.seenDaily(y, 0, 10, 0, 1);
    y.seen(1, 0, 11, 11);
    swapped(due, "one is", y, 59, 11);
    swapped(due, "as known on 10, none is", y, 10);
  }

  private static void allPlacesOfTheDay(Due due) {
    // Seen at two places on a day: whoever has them then is impossible.
    BoatsMoveOn x = Scene.row(2, 5, 60, 2);
    x.seen(0, 0, 10, 10);
    x.seen(0, 1, 10, 10);
    x.seen(1, 0, 10, 10);
    swapped(due, "the other would be", x, 59);
    // Seen twice at one place is seen there.
    BoatsMoveOn y = Scene.still(2);
    Scene.seenDaily(y, 0, 10, 0, 1);
    y.seen(0, 1, 11, 11);
    y.seen(1, 0, 11, 11);
    y.seen(1, 0, 11, 11);
    swapped(due, "twice at one place", y, 59, 11);
  }

  private static void howManyAndTheIth(Due due) {
    // Both have the other's place on one day each of the first and the last: either mends both.
    BoatsMoveOn x = Scene.still(2);
    x.seen(0, 0, 0, 0);
    x.seen(0, 1, 59, 59);
    x.seen(1, 1, 0, 0);
    x.seen(1, 0, 59, 59);
    swapped(due, "the first and the last of all days", x, 59, 0, 59);
    swapped(due, "as known on 58", x, 58);
    due.is("it changes nothing", x.known(0, 59, 2), 1);
    due.is("nor what was seen", x.about(5), 4);
  }

  private static void noneSuch(Due due) {
    BoatsMoveOn x = Scene.still(2);
    Scene.seenDaily(x, 0, 10, 0, 1);
    Scene.seenDaily(x, 1, 10, 1, 0);
    due.is("two of them", x.swapped(0, 1, 59, -1), 2);
    for (int i : new int[] {2, 3, 59, 60, MAX}) {
      due.is("no " + i + "-th", x.swapped(0, 1, 59, i), -1);
    }
    due.is("none is known on 10: how many", x.swapped(0, 1, 10, -1), 0);
    due.is("none is known on 10: the first", x.swapped(0, 1, 10, 0), -1);
  }

  private static void wrongSwaps(Due due) {
    BoatsMoveOn x = Scene.still(2);
    Scene.seenDaily(x, 0, 10, 0, 1);
    Scene.seenDaily(x, 1, 10, 1, 0);
    due.is("one and the same", x.swapped(0, 0, 59, -1), -1);
    due.is("one and the same", x.swapped(1, 1, 59, 0), -1);
    for (int boat : new int[] {-1, 2, 8, MIN, MAX}) {
      due.is("swapped(0, " + boat + ", 59, -1)", x.swapped(0, boat, 59, -1), -1);
      due.is("swapped(" + boat + ", 0, 59, -1)", x.swapped(boat, 0, 59, -1), -1);
    }
    for (int k : Scene.NO_DAYS) {
      due.is("swapped(0, 1, " + k + ", -1)", x.swapped(0, 1, k, -1), -1);
      due.is("swapped(0, 1, " + k + ", 0)", x.swapped(0, 1, k, 0), -1);
    }
    for (int i : new int[] {-2, -3, MIN}) {
      due.is("swapped(0, 1, 59, " + i + ")", x.swapped(0, 1, 59, i), -1);
    }
  }
}
