/** Boundary cases of miles, journeys and where a boat may be: promises 13, 15, 16 and 22. */
final class JourneyEdges {
  private static final int MIN = Scene.MIN;
  private static final int MAX = Scene.MAX;

  private static final String MILES =
      "MILES of a DAY between two PLACES: the least along WAYS that aren't SHUT on it (0 of one and"
          + " the same; none).";
  private static final String AS_KNOWN =
      "AS KNOWN on a DAY k: those TOLD or PROVED on k or ahead of it (WAYS and SHUT are always"
          + " known).";
  private static final String JOURNEY =
      "A JOURNEY of a BOAT: a PLACE for each DAY from its first to its last DAY on which it was"
          + " SEEN (as known), those at which it was SEEN among them, and each DAY but the first"
          + " one no farther from that ahead than PACE, by MILES of this DAY.";
  private static final String MAY =
      "MAY of a BOAT on a DAY, as known on k (bits; 0: IMPOSSIBLE, or no DAY of its JOURNEYS).";
  private static final String KNOWN =
      "As known on k: 0 the first DAY of JOURNEYS, 1 the last one, 2 whether it is IMPOSSIBLE"
          + " (1, 0), 3 DOUBT.";
  private static final String KNOWN_NONE =
      "NONE: never SEEN, and for others (3: IMPOSSIBLE, too).";
  private static final String DOUBT =
      "DOUBT of a BOAT: of all DAYS of its JOURNEYS how many PLACES there are in MAY but one,"
          + " together.";
  private static final String LOOK =
      "LOOK on one of these DAYS: the PLACE in MAY by which the greater DOUBT is least: that by its"
          + " being SEEN there, and that by its not being there (0, if that is IMPOSSIBLE); of like"
          + " ones the lowest PLACE.";
  private static final String LOOK_NONE =
      "NONE: no DAY of its JOURNEYS, IMPOSSIBLE, and for others.";

  private JourneyEdges() {}

  static void addTo(Edges edges) {
    edges.term(MILES, JourneyEdges::leastMiles);
    edges.promise(
        13,
        "MILES of a DAY between two PLACES (day NONE: nothing being SHUT).",
        JourneyEdges::nothingBeingShut);
    edges.promise(13, "NONE: no way, and for others.", JourneyEdges::noMiles);
    edges.term(AS_KNOWN, JourneyEdges::toldOnTheDay);
    edges.term(AS_KNOWN, JourneyEdges::provedOnTheDay);
    edges.term(AS_KNOWN, JourneyEdges::waysAlwaysKnown);
    edges.term(JOURNEY, JourneyEdges::firstToLastDay);
    edges.term(JOURNEY, JourneyEdges::noFartherThanPace);
    edges.term(JOURNEY, JourneyEdges::milesOfThisDay);
    edges.term(JOURNEY, JourneyEdges::seenAmongThem);
    edges.term("MAY on a DAY: PLACES at which some JOURNEY has it.", JourneyEdges::someJourney);
    edges.term(
        "None can be: it is IMPOSSIBLE; never SEEN: it has none.", JourneyEdges::impossibleOrNever);
    edges.promise(15, MAY, JourneyEdges::mayBits);
    edges.promise(15, MAY, JourneyEdges::mayIsZero);
    edges.promise(15, "NONE for others.", JourneyEdges::wrongMays);
    edges.promise(16, KNOWN, JourneyEdges::knownOfOneDay);
    edges.promise(16, KNOWN, JourneyEdges::knownOfAllDays);
    edges.promise(16, KNOWN_NONE, JourneyEdges::neverSeen);
    edges.promise(16, KNOWN_NONE, JourneyEdges::noDoubtOfTheImpossible);
    edges.promise(16, KNOWN_NONE, JourneyEdges::wrongKnowns);
    edges.term(DOUBT, JourneyEdges::doubts);
    edges.term(LOOK, JourneyEdges::greaterDoubtIsLeast);
    edges.term(LOOK, JourneyEdges::notThereIsImpossible);
    edges.term(LOOK, JourneyEdges::lowestOfLikeOnes);
    edges.promise(22, "LOOK: 0 the PLACE, 1 the greater DOUBT.", JourneyEdges::placeAndDoubt);
    edges.promise(22, LOOK_NONE, JourneyEdges::noDayToLook);
    edges.promise(22, LOOK_NONE, JourneyEdges::wrongLooks);
  }

  private static void leastMiles(Due due) {
    BoatsMoveOn x = new BoatsMoveOn();
    for (int i = 0; i < 4; i++) {
      x.place(0);
    }
    x.way(0, 1, 30);
    x.way(0, 2, 10);
    x.way(2, 1, 9);
    due.is("over another place", x.miles(4, 0, 1), 19);
    due.is("back", x.miles(4, 1, 0), 19);
    x.shut(1, 5, 6);
    x.shut(0, 6, 6);
    due.is("ahead of shutting", x.miles(4, 0, 1), 19);
    due.is("the other one is shut", x.miles(5, 0, 1), 30);
    due.is("both are shut", x.miles(6, 0, 1), -1);
    due.is("behind shutting", x.miles(7, 0, 1), 19);
    due.is("one and the same, all being shut", x.miles(6, 0, 0), 0);
    due.is("no way at all", x.miles(4, 0, 3), -1);
    due.is("one and the same without a way", x.miles(4, 3, 3), 0);
    BoatsMoveOn y = Scene.row(10, 30, 10, 0);
    due.is("the farthest", y.miles(59, 9, 0), 270);
    y.way(9, 0, 30);
    due.is("shorter the other way round", y.miles(59, 9, 0), 30);
    due.is("half of the ring", y.miles(59, 0, 5), 150);
    due.is("over the first place", y.miles(59, 1, 9), 60);
    due.is("over the last place", y.miles(59, 0, 8), 60);
  }

  private static void nothingBeingShut(Due due) {
    BoatsMoveOn x = Scene.row(2, 1, 10, 0);
    x.way(0, 1, 30);
    x.shut(0, 0, 59);
    due.is("day NONE", x.miles(-1, 0, 1), 1);
    due.is("the first day", x.miles(0, 0, 1), 30);
    due.is("the last day", x.miles(59, 0, 1), 30);
    x.shut(1, 0, 59);
    due.is("day NONE", x.miles(-1, 0, 1), 1);
    due.is("the first day", x.miles(0, 0, 1), -1);
  }

  private static void noMiles(Due due) {
    BoatsMoveOn x = Scene.row(2, 5, 10, 0);
    x.place(0);
    due.is("no way", x.miles(-1, 0, 2), -1);
    due.is("no way on a day", x.miles(0, 2, 1), -1);
    for (int day : new int[] {-2, 60, MIN, MAX}) {
      due.is("miles(" + day + ", 0, 1)", x.miles(day, 0, 1), -1);
      due.is("miles(" + day + ", 0, 0)", x.miles(day, 0, 0), -1);
    }
    for (int place : new int[] {-1, 3, 10, MIN, MAX}) {
      due.is("miles(0, 0, " + place + ")", x.miles(0, 0, place), -1);
      due.is("miles(-1, " + place + ", 0)", x.miles(-1, place, 0), -1);
      due.is("one and the same, but none", x.miles(0, place, place), -1);
    }
  }

  /** What was seen on 10 is told on 20: on 19 it is as if it had never been seen. */
  private static void toldOnTheDay(Due due) {
    BoatsMoveOn x = Scene.still(2);
    x.seen(0, 0, 10, 20);
    x.seen(1, 0, 10, 20);
    for (int k = 19; k <= 20; k++) {
      boolean known = k == 20;
      due.is("may as known on " + k, x.may(0, 10, k), known ? 1 : 0);
      due.is("known on " + k, x.known(0, k, 0), known ? 10 : -1);
      due.is("over as known on " + k, x.over(0, 0, -1, k), known ? 0 : -1);
      due.is("longest as known on " + k, x.longest(0, 0, -1, k, 0), known ? 1 : -1);
      due.is("far as known on " + k, x.far(0, k, 0), known ? 0 : -1);
      due.is("shortOf as known on " + k, x.shortOf(0, -1, k), known ? 2 : -1);
      due.is("broken as known on " + k, x.broken(0, -1, k), known ? 1 : -1);
      due.is("look as known on " + k, x.look(0, 10, k, 0), known ? 0 : -1);
      due.is("crowd as known on " + k, x.crowd(0, 10, k, 0), known ? 2 : 0);
      due.is("tied as known on " + k, x.tied(0, 1, k), known ? 1 : -1);
      due.is("send on " + k, x.send(0, -1, k), known ? 1 : -1);
    }
    x.seen(1, 1, 10, 30);
    x.seen(0, 0, 40, 40);
    due.is("swapped as known on 29", x.swapped(0, 1, 29, -1), 0);
    due.is("impossible as known on 29", x.known(1, 29, 2), 0);
    due.is("impossible as known on 30", x.known(1, 30, 2), 1);
  }

  private static void provedOnTheDay(Due due) {
    BoatsMoveOn x = Scene.still(1);
    x.seen(0, 0, 0, 0);
    x.seen(0, 0, 19, 19);
    x.excuse(0, 0, 9, 30);
    Due.tell(x, "need 0;");
    due.is("longest as known on 29", x.longest(0, 0, 0, 29, 0), 20);
    due.is("longest as known on 30", x.longest(0, 0, 0, 30, 0), 10);
    due.is("over as known on 29", x.over(0, 0, 0, 29), 2);
    due.is("over as known on 30", x.over(0, 0, 0, 30), 0);
    due.is("broken as known on 29", x.broken(0, 0, 29), 1);
    due.is("broken as known on 30", x.broken(0, 0, 30), 0);
  }

  private static void waysAlwaysKnown(Due due) {
    BoatsMoveOn x = Scene.row(2, 5, 5, 1);
    x.seen(0, 0, 0, 0);
    x.seen(0, 0, 2, 2);
    due.is("may on 1", x.may(0, 1, 2), 3);
    x.shut(0, 2, 2);
    due.is("shut on 2, known on 2", x.may(0, 1, 2), 1);
    x.way(0, 1, 5);
    due.is("another way, known at once", x.may(0, 1, 2), 3);
    x.shut(1, 2, 59);
    due.is("shut on days that aren't yet", x.may(0, 1, 2), 1);
    x.pace(60);
    due.is("a pace that is told later", x.may(0, 1, 2), 1);
  }

  private static void firstToLastDay(Due due) {
    BoatsMoveOn x = Scene.row(3, 4, 8, 1);
    x.seen(0, 1, 20, 20);
    x.seen(0, 1, 22, 22);
    int[] want = {0, 2, 7, 2, 0};
    for (int day = 19; day <= 23; day++) {
      due.is("may on " + day, x.may(0, day, 22), want[day - 19]);
    }
    due.is("may on 0", x.may(0, 0, 22), 0);
    due.is("may on 59", x.may(0, 59, 22), 0);
    x.seen(0, 1, 18, 23);
    due.is("told later, seen first", x.may(0, 19, 23), 7);
    due.is("not known on 22", x.may(0, 19, 22), 0);
    x.seen(0, 2, 0, 59);
    x.seen(0, 2, 59, 59);
    due.is("the first of all days", x.may(0, 0, 59), 4);
    due.is("the last of all days", x.may(0, 59, 59), 4);
    due.is("all between", x.may(0, 58, 59), 7);
  }

  private static void noFartherThanPace(Due due) {
    BoatsMoveOn x = Scene.row(3, 6, 6, 2);
    Scene.seenDaily(x, 0, 10, 0, 1, 2);
    Scene.seenDaily(x, 1, 10, 0, 2);
    due.is("6 miles each day", x.known(0, 59, 2), 0);
    due.is("12 miles in one", x.known(1, 59, 2), 1);
    x.pace(5);
    due.is("6 miles at a pace of 5", x.known(0, 59, 2), 1);
    x.pace(11);
    due.is("12 miles at a pace of 11", x.known(1, 59, 2), 1);
    x.pace(12);
    due.is("12 miles at a pace of 12", x.known(1, 59, 2), 0);
    // Staying where it is is never too far.
    BoatsMoveOn y = Scene.row(1, 1, 1, 1);
    y.seen(0, 0, 0, 0);
    y.seen(0, 0, 59, 59);
    due.is("without any way", y.may(0, 30, 59), 1);
  }

  private static void milesOfThisDay(Due due) {
    BoatsMoveOn x = Scene.row(2, 5, 5, 2);
    Scene.seenDaily(x, 0, 10, 0, 1);
    Scene.seenDaily(x, 1, 0, 0, 1);
    x.shut(0, 10, 10);
    x.shut(0, 12, 59);
    x.shut(0, 0, 0);
    due.is("shut on the first day and behind the last", x.known(0, 59, 2), 0);
    due.is("shut on day 0", x.known(1, 59, 2), 0);
    x.shut(0, 1, 1);
    due.is("shut on day 1", x.known(1, 59, 2), 1);
    x.shut(0, 11, 11);
    due.is("shut on the day of moving", x.known(0, 59, 2), 1);
  }

  private static void seenAmongThem(Due due) {
    BoatsMoveOn x = Scene.row(3, 4, 8, 1);
    x.seen(0, 0, 10, 10);
    x.seen(0, 0, 14, 14);
    due.is("anywhere between", x.may(0, 12, 14), 7);
    x.seen(0, 2, 12, 15);
    due.is("seen between", x.may(0, 12, 15), 4);
    due.is("not known on 14", x.may(0, 12, 14), 7);
    x.seen(0, 2, 12, 16);
    due.is("seen twice at one place", x.may(0, 12, 16), 4);
    x.seen(0, 1, 12, 17);
    due.is("seen at two places on one day", x.may(0, 12, 17), 0);
    due.is("none can be", x.known(0, 17, 2), 1);
  }

  private static void someJourney(Due due) {
    BoatsMoveOn x = Scene.row(5, 4, 4, 1);
    x.seen(0, 2, 10, 10);
    x.seen(0, 1, 13, 13);
    // Day 11: 1, 2 or 3; day 12: 0, 1 or 2, since 3 and 4 don't lead to 1 in a day.
    due.is("may on 10", x.may(0, 10, 13), 4);
    due.is("may on 11", x.may(0, 11, 13), 14);
    due.is("may on 12", x.may(0, 12, 13), 7);
    due.is("may on 13", x.may(0, 13, 13), 2);
    // What a later day rules out is ruled out on all days ahead of it.
    x.seen(0, 0, 14, 14);
    due.is("may on 11, then at 0 on 14", x.may(0, 11, 14), 14);
    x.seen(0, 0, 12, 15);
    due.is("may on 11, then at 0 on 12", x.may(0, 11, 15), 2);
  }

  private static void impossibleOrNever(Due due) {
    BoatsMoveOn x = Scene.still(2);
    due.is("never seen: whether it is impossible", x.known(0, 59, 2), -1);
    due.is("never seen: may", x.may(0, 0, 59), 0);
    x.seen(0, 0, 10, 10);
    due.is("one day is never impossible", x.known(0, 59, 2), 0);
    x.seen(0, 1, 59, 59);
    due.is("too far, however long it takes", x.known(0, 59, 2), 1);
    due.is("as known on 58", x.known(0, 58, 2), 0);
    due.is("as known on 9: never seen", x.known(0, 9, 2), -1);
    due.is("impossible: may", x.may(0, 10, 59), 0);
    due.is("another boat is still never seen", x.known(1, 59, 2), -1);
    x.pace(5);
    due.is("told a greater pace", x.known(0, 59, 2), 0);
  }

  private static void mayBits(Due due) {
    BoatsMoveOn x = Scene.row(10, 1, 9, 8);
    x.seen(7, 9, 0, 0);
    x.seen(7, 9, 2, 2);
    due.is("the last place is the highest bit", x.may(7, 0, 2), 512);
    due.is("all ten", x.may(7, 1, 2), 1023);
    x.pace(8);
    due.is("all but the first", x.may(7, 1, 2), 1022);
    x.pace(1);
    due.is("the last two", x.may(7, 1, 2), 768);
  }

  private static void mayIsZero(Due due) {
    BoatsMoveOn x = Scene.still(2);
    x.seen(0, 0, 10, 10);
    due.is("a day ahead of the first", x.may(0, 9, 10), 0);
    due.is("a day behind the last", x.may(0, 11, 10), 0);
    due.is("not known yet", x.may(0, 10, 9), 0);
    due.is("never seen", x.may(1, 10, 59), 0);
    x.seen(0, 1, 12, 12);
    for (int day = 9; day <= 13; day++) {
      due.is("impossible, on " + day, x.may(0, day, 12), 0);
    }
  }

  private static void wrongMays(Due due) {
    BoatsMoveOn x = Scene.still(1);
    x.seen(0, 0, 0, 0);
    for (int boat : new int[] {-1, 1, 8, MIN, MAX}) {
      due.is("may(" + boat + ", 0, 0)", x.may(boat, 0, 0), -1);
    }
    for (int day : Scene.NO_DAYS) {
      due.is("may(0, " + day + ", 0)", x.may(0, day, 0), -1);
      due.is("may(0, 0, " + day + ")", x.may(0, 0, day), -1);
    }
  }

  private static void knownOfOneDay(Due due) {
    BoatsMoveOn x = Scene.row(2, 5, 5, 1);
    x.seen(0, 0, 59, 59);
    due.is("the first day", x.known(0, 59, 0), 59);
    due.is("the last day", x.known(0, 59, 1), 59);
    due.is("impossible", x.known(0, 59, 2), 0);
    due.is("doubt", x.known(0, 59, 3), 0);
    BoatsMoveOn y = Scene.row(2, 5, 5, 1);
    y.seen(0, 0, 0, 0);
    due.is("the first day is 0", y.known(0, 0, 0), 0);
    due.is("the last day is 0", y.known(0, 0, 1), 0);
  }

  private static void knownOfAllDays(Due due) {
    BoatsMoveOn x = Scene.row(10, 6, 60, 1);
    x.seen(0, 0, 59, 59);
    x.seen(0, 0, 0, 59);
    x.seen(0, 0, 30, 59);
    due.is("the first day", x.known(0, 59, 0), 0);
    due.is("the last day", x.known(0, 59, 1), 59);
    due.is("impossible", x.known(0, 59, 2), 0);
    due.is("57 days of ten places", x.known(0, 59, 3), 57 * 9);
    x.seen(0, 1, 30, 59);
    due.is("impossible", x.known(0, 59, 2), 1);
    due.is("the first day still", x.known(0, 59, 0), 0);
    due.is("the last day still", x.known(0, 59, 1), 59);
  }

  private static void neverSeen(Due due) {
    BoatsMoveOn x = Scene.still(2);
    x.seen(1, 0, 0, 0);
    x.seen(0, 0, 10, 12);
    for (int what = 0; what <= 3; what++) {
      due.is("not known yet: known(0, 11, " + what + ")", x.known(0, 11, what), -1);
    }
    due.is("known(0, 12, 0)", x.known(0, 12, 0), 10);
  }

  private static void noDoubtOfTheImpossible(Due due) {
    BoatsMoveOn x = Scene.still(1);
    x.seen(0, 0, 10, 10);
    x.seen(0, 1, 11, 11);
    due.is("known(0, 11, 0)", x.known(0, 11, 0), 10);
    due.is("known(0, 11, 1)", x.known(0, 11, 1), 11);
    due.is("known(0, 11, 2)", x.known(0, 11, 2), 1);
    due.is("known(0, 11, 3)", x.known(0, 11, 3), -1);
    due.is("known(0, 10, 3)", x.known(0, 10, 3), 0);
  }

  private static void wrongKnowns(Due due) {
    BoatsMoveOn x = Scene.still(1);
    x.seen(0, 0, 0, 0);
    for (int boat : new int[] {-1, 1, 8, MIN, MAX}) {
      due.is("known(" + boat + ", 0, 0)", x.known(boat, 0, 0), -1);
    }
    for (int k : Scene.NO_DAYS) {
      due.is("known(0, " + k + ", 2)", x.known(0, k, 2), -1);
    }
    for (int what : new int[] {-1, 4, 5, MIN, MAX}) {
      due.is("known(0, 0, " + what + ")", x.known(0, 0, what), -1);
    }
  }

  private static void doubts(Due due) {
    BoatsMoveOn x = Scene.row(3, 4, 4, 1);
    x.seen(0, 0, 20, 20);
    due.is("one day, one place", x.known(0, 20, 3), 0);
    x.seen(0, 0, 21, 21);
    due.is("two days, one place each", x.known(0, 21, 3), 0);
    x.seen(0, 0, 24, 24);
    // 0; 0; 0 or 1; 0 or 1; 0.
    due.is("two days of two places", x.known(0, 24, 3), 2);
    x.seen(0, 0, 28, 28);
    // Then 0 or 1; all three; 0 or 1; 0.
    due.is("four more", x.known(0, 28, 3), 6);
    BoatsMoveOn y = Scene.row(10, 6, 60, 1);
    y.seen(0, 0, 0, 0);
    y.seen(0, 9, 59, 59);
    due.is("the most of all", y.known(0, 59, 3), 58 * 9);
  }

  /** Whoever is at 2 when the way to it is shut stays there: looking at 2 says most. */
  private static void greaterDoubtIsLeast(Due due) {
    BoatsMoveOn x = new BoatsMoveOn();
    x.place(0);
    x.place(0);
    x.place(0);
    x.way(0, 1, 4);
    x.way(1, 2, 8);
    x.shut(1, 3, 5);
    x.boat();
    x.seen(0, 0, 0, 0);
    x.seen(0, 2, 7, 9);
    due.is("doubt", x.known(0, 9, 3), 10);
    // Seen at 2: 1; 2; 2; 2; 2; 1 or 2. Not there: each of the six days is one of two.
    due.is("the place", x.look(0, 3, 9, 0), 2);
    due.is("the greater doubt", x.look(0, 3, 9, 1), 6);
  }

  private static void notThereIsImpossible(Due due) {
    BoatsMoveOn x = Scene.row(3, 4, 4, 1);
    x.seen(0, 1, 10, 10);
    x.seen(0, 1, 12, 12);
    due.is("doubt", x.known(0, 12, 3), 2);
    due.is("where it was seen: the place", x.look(0, 10, 12, 0), 1);
    due.is("where it was seen: the doubt stays", x.look(0, 10, 12, 1), 2);
    due.is("on the last day: the place", x.look(0, 12, 12, 0), 1);
    due.is("on the last day: the doubt stays", x.look(0, 12, 12, 1), 2);
    BoatsMoveOn y = Scene.still(1);
    y.seen(0, 1, 0, 0);
    y.seen(0, 1, 59, 59);
    due.is("without any doubt: the place", y.look(0, 30, 59, 0), 1);
    due.is("without any doubt: none", y.look(0, 30, 59, 1), 0);
  }

  private static void lowestOfLikeOnes(Due due) {
    BoatsMoveOn x = Scene.row(10, 1, 9, 1);
    x.seen(0, 5, 0, 0);
    x.seen(0, 5, 2, 2);
    due.is("of ten like ones", x.look(0, 1, 2, 0), 0);
    due.is("nine less one", x.look(0, 1, 2, 1), 8);
    x.pace(1);
    due.is("of 4, 5 and 6", x.look(0, 1, 2, 0), 4);
    due.is("two less one", x.look(0, 1, 2, 1), 1);
    // The lower place is no answer if it isn't in MAY.
    x.pace(2);
    due.is("of 3 to 7", x.look(0, 1, 2, 0), 3);
  }

  private static void placeAndDoubt(Due due) {
    BoatsMoveOn x = Scene.row(2, 4, 4, 1);
    x.seen(0, 1, 10, 10);
    x.seen(0, 1, 12, 12);
    due.is("0", x.look(0, 11, 12, 0), 0);
    due.is("1", x.look(0, 11, 12, 1), 0);
    due.is("it changes nothing", x.known(0, 12, 3), 1);
    due.is("nor what may be", x.may(0, 11, 12), 3);
    due.is("nor what was seen", x.about(5), 2);
  }

  private static void noDayToLook(Due due) {
    BoatsMoveOn x = Scene.still(2);
    x.seen(0, 0, 10, 10);
    x.seen(0, 0, 12, 12);
    for (int what = 0; what <= 1; what++) {
      due.is("ahead of the first day", x.look(0, 9, 12, what), -1);
      due.is("behind the last day", x.look(0, 13, 12, what), -1);
      due.is("behind the last known one", x.look(0, 11, 11, what), -1);
      due.is("never seen", x.look(1, 10, 12, what), -1);
      due.is("never seen, on day 0", x.look(1, 0, 12, what), -1);
      due.is("not known yet", x.look(0, 10, 9, what), -1);
      due.is("on the first day", x.look(0, 10, 12, what), 0);
      due.is("on the last day", x.look(0, 12, 12, what), 0);
    }
    x.seen(0, 1, 11, 20);
    due.is("impossible", x.look(0, 10, 20, 0), -1);
    due.is("impossible", x.look(0, 10, 20, 1), -1);
  }

  private static void wrongLooks(Due due) {
    BoatsMoveOn x = Scene.still(1);
    x.seen(0, 0, 0, 0);
    for (int boat : new int[] {-1, 1, 8, MIN, MAX}) {
      due.is("look(" + boat + ", 0, 0, 0)", x.look(boat, 0, 0, 0), -1);
    }
    for (int day : Scene.NO_DAYS) {
      due.is("look(0, " + day + ", 0, 0)", x.look(0, day, 0, 0), -1);
      due.is("look(0, 0, " + day + ", 0)", x.look(0, 0, day, 0), -1);
    }
    for (int what : new int[] {-1, 2, MIN, MAX}) {
      due.is("look(0, 0, 0, " + what + ")", x.look(0, 0, 0, what), -1);
    }
  }
}
