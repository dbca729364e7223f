/** Boundary cases of stays, of miles that are needed and of broken rules: promises 17 to 21. */
final class StayEdges {
  private static final int MIN = Scene.MIN;
  private static final int MAX = Scene.MAX;

  private static final String ROUND =
      "ROUND a PLACE h is each PLACE t for which near is so (here h, there t; h itself always;"
          + " without: h alone).";
  private static final String EXCUSED =
      "A DAY of a JOURNEY is EXCUSED, if an EXCUSE of the BOAT (as known) has it, or excuse is so"
          + " (here: where it is then; without: not).";
  private static final String STAY =
      "A STAY round h: DAYS one behind the other, all at PLACES ROUND h: it lasts as many as aren't"
          + " EXCUSED.";
  private static final String OVER =
      "OVER round h: LONGEST is more than stay (here h; 0 at least, 99 at most; without: 14).";
  private static final String OVER_FOR_SURE =
      "A BOAT is OVER round h for SURE (2), if each JOURNEY is; PERHAPS (1), if some is; else not"
          + " (0).";
  private static final String FAR =
      "FAR of a JOURNEY: MILES from DAY to DAY (each by MILES of the later DAY), together: the"
          + " least and the most of all JOURNEYS.";
  private static final String SHORT =
      "SHORT of need (0 at least, 9999 at most; without: 20): for SURE (2): the most is less;"
          + " PERHAPS (1): the least is; else not (0).";
  private static final String BROKEN =
      "BROKEN by a RULE as known: SHORT for SURE, or OVER round some PLACE for SURE.";

  private StayEdges() {}

  static void addTo(Edges edges) {
    edges.term(ROUND, StayEdges::roundItself);
    edges.term(ROUND, StayEdges::hereAndThere);
    edges.term(EXCUSED, StayEdges::daysOfAnExcuse);
    edges.term(EXCUSED, StayEdges::whereItIsThen);
    edges.term(STAY, StayEdges::oneBehindTheOther);
    edges.term(STAY, StayEdges::asManyAsArentExcused);
    edges.term("LONGEST of a JOURNEY: of its STAYS round h.", StayEdges::longestOfItsStays);
    edges.term(OVER, StayEdges::moreThanStay);
    edges.term(OVER, StayEdges::stayOfZeroAtLeast);
    edges.term(OVER, StayEdges::withoutStay);
    edges.term(OVER_FOR_SURE, StayEdges::surePerhapsOrNot);
    edges.term(
        "AT MOST, AT LEAST: the greatest and the least LONGEST of all its JOURNEYS.",
        StayEdges::greatestAndLeast);
    edges.term(FAR, StayEdges::milesOfTheLaterDay);
    edges.term(FAR, StayEdges::leastAndMostMiles);
    edges.term(SHORT, StayEdges::mostAndLeastOfNeed);
    edges.term(SHORT, StayEdges::needOfZeroAtLeast);
    edges.term(SHORT, StayEdges::withoutNeed);
    edges.term(BROKEN, StayEdges::shortOrOver);
    edges.term(BROKEN, StayEdges::perhapsIsNotBroken);
    edges.promise(
        17, "OVER round a PLACE by a RULE, as known on k (0 .. 2).", StayEdges::overAsKnown);
    edges.promise(
        17, "NONE: never SEEN, IMPOSSIBLE, and for others.", StayEdges::noOver);
    edges.promise(18, "0 AT LEAST, 1 AT MOST.", StayEdges::atLeastAndAtMost);
    edges.promise(18, "NONE as OVER.", StayEdges::noLongest);
    edges.promise(19, "FAR: 0 the least, 1 the most.", StayEdges::farthestOfAll);
    edges.promise(19, "NONE as OVER.", StayEdges::noFar);
    edges.promise(20, "SHORT (0 .. 2).", StayEdges::shortAsKnown);
    edges.promise(20, "NONE as OVER.", StayEdges::noShort);
    edges.promise(21, "Whether it is BROKEN (1, 0).", StayEdges::brokenAsKnown);
    edges.promise(21, "NONE as OVER.", StayEdges::noBroken);
  }

  /** Each journey of this boat has the same longest stay round a place by a rule. */
  private static void longest(Due due, BoatsMoveOn x, int place, int rule, int want) {
    due.is("longest round " + place + " at least", x.longest(0, place, rule, 59, 0), want);
    due.is("longest round " + place + " at most", x.longest(0, place, rule, 59, 1), want);
  }

  private static void roundItself(Due due) {
    BoatsMoveOn x = Scene.row(10, 5, 10, 0);
    Due.tell(x, "near 1 = 2;");
    Due.tell(x, "near here # there;");
    Due.tell(x, "stay 1;");
    for (int place = 0; place < 10; place++) {
      due.is("near is never so", x.round(0, place), 1 << place);
      due.is("near isn't so of itself", x.round(1, place), 1023);
      due.is("without near", x.round(2, place), 1 << place);
      due.is("without a rule", x.round(-1, place), 1 << place);
    }
  }

  private static void hereAndThere(Due due) {
    BoatsMoveOn x = Scene.row(4, 5, 60, 1);
    Due.tell(x, "near here = 0 and there = 3;");
    due.is("here 0, there 3", x.round(0, 0), 9);
    due.is("not the other way round", x.round(0, 3), 8);
    Scene.seenDaily(x, 0, 0, 3, 0, 3, 0);
    longest(due, x, 0, 0, 4);
    longest(due, x, 3, 0, 1);
  }

  private static void daysOfAnExcuse(Due due) {
    BoatsMoveOn x = Scene.still(2);
    x.seen(0, 0, 10, 10);
    x.seen(0, 0, 19, 19);
    longest(due, x, 0, -1, 10);
    x.excuse(0, 0, 9, 0);
    longest(due, x, 0, -1, 10);
    x.excuse(0, 20, 59, 0);
    longest(due, x, 0, -1, 10);
    x.excuse(0, 0, 10, 0);
    longest(due, x, 0, -1, 9);
    x.excuse(0, 19, 59, 0);
    longest(due, x, 0, -1, 8);
    x.excuse(0, 15, 15, 0);
    longest(due, x, 0, -1, 7);
    x.excuse(0, 15, 16, 0);
    longest(due, x, 0, -1, 6);
    x.excuse(1, 0, 59, 0);
    longest(due, x, 0, -1, 6);
    x.excuse(0, 0, 59, 59);
    longest(due, x, 0, -1, 0);
    due.is("as known on 58", x.longest(0, 0, -1, 58, 0), 6);
  }

  private static void whereItIsThen(Due due) {
    BoatsMoveOn x = Scene.row(2, 5, 5, 1);
    Scene.seenDaily(x, 0, 0, 0, 0, 1, 1, 1);
    Due.tell(x, "near 1 = 1; excuse here = 1;");
    longest(due, x, 0, 0, 2);
    longest(due, x, 1, 0, 2);
    Due.tell(x, "near 1 = 1; excuse day = 4 or here = 0;");
    longest(due, x, 0, 1, 2);
    Due.tell(x, "near 1 = 1;");
    longest(due, x, 0, 2, 5);
    Due.tell(x, "near 1 = 1; excuse 1 = 1;");
    longest(due, x, 0, 3, 0);
  }

  private static void oneBehindTheOther(Due due) {
    BoatsMoveOn x = Scene.row(3, 4, 4, 1);
    Due.tell(x, "near miles < 9 and there < 2;");
    Scene.seenDaily(x, 0, 50, 0, 0, 1, 0, 0, 0, 1, 2, 1, 0);
    longest(due, x, 0, -1, 3);
    longest(due, x, 1, -1, 1);
    longest(due, x, 2, -1, 1);
    // Seven days at 0 and 1, then one at 2, then two.
    longest(due, x, 0, 0, 7);
    longest(due, x, 2, 0, 10);
  }

  private static void asManyAsArentExcused(Due due) {
    BoatsMoveOn x = Scene.row(2, 4, 4, 1);
    Scene.seenDaily(x, 0, 0, 0, 0, 0, 0, 0, 1);
    longest(due, x, 0, -1, 5);
    x.excuse(0, 2, 2, 0);
    longest(due, x, 0, -1, 4);
    x.excuse(0, 0, 0, 0);
    longest(due, x, 0, -1, 3);
    x.excuse(0, 4, 5, 0);
    longest(due, x, 0, -1, 2);
    longest(due, x, 1, -1, 0);
    x.excuse(0, 0, 59, 0);
    longest(due, x, 0, -1, 0);
  }

  private static void longestOfItsStays(Due due) {
    BoatsMoveOn x = Scene.row(3, 4, 4, 1);
    Scene.seenDaily(x, 0, 0, 0, 0, 0, 1, 0, 0, 1, 1);
    // The first one is the longest round 0, the last one round 1; there is none round 2.
    longest(due, x, 0, -1, 3);
    longest(due, x, 1, -1, 2);
    longest(due, x, 2, -1, 0);
    x.excuse(0, 0, 1, 0);
    longest(due, x, 0, -1, 2);
  }

  private static void moreThanStay(Due due) {
    BoatsMoveOn x = Scene.still(1);
    x.seen(0, 1, 0, 0);
    x.seen(0, 1, 59, 59);
    Due.tell(x, "stay 60;");
    Due.tell(x, "stay 59;");
    Due.tell(x, "stay 9999;");
    Due.tell(x, "stay 59 + here;");
    due.is("sixty aren't more than sixty", x.over(0, 1, 0, 59), 0);
    due.is("sixty are more than 59", x.over(0, 1, 1, 59), 2);
    due.is("sixty aren't more than 99", x.over(0, 1, 2, 59), 0);
    due.is("here is the place that is asked for", x.over(0, 1, 3, 59), 0);
    x.excuse(0, 0, 0, 0);
    due.is("59 aren't more than 59", x.over(0, 1, 1, 59), 0);
  }

  private static void stayOfZeroAtLeast(Due due) {
    BoatsMoveOn x = Scene.still(1);
    x.seen(0, 1, 0, 0);
    Due.tell(x, "stay 0;");
    Due.tell(x, "stay 0 - 1;");
    Due.tell(x, "stay 0 - 9999 * 9999;");
    for (int rule = 0; rule < 3; rule++) {
      due.is("one day is more than 0", x.over(0, 1, rule, 0), 2);
      due.is("none is not more than 0", x.over(0, 0, rule, 0), 0);
    }
    x.excuse(0, 0, 0, 0);
    for (int rule = 0; rule < 3; rule++) {
      due.is("an excused day is not more than 0", x.over(0, 1, rule, 0), 0);
    }
  }

  private static void withoutStay(Due due) {
    BoatsMoveOn x = Scene.still(2);
    x.seen(0, 0, 20, 20);
    x.seen(0, 0, 33, 33);
    x.seen(1, 0, 20, 20);
    x.seen(1, 0, 34, 34);
    Due.tell(x, "need 0;");
    for (int rule = -1; rule <= 0; rule++) {
      due.is("14 days", x.over(0, 0, rule, 59), 0);
      due.is("15 days", x.over(1, 0, rule, 59), 2);
    }
  }

  /** From 0 to 0 with one day between: at 0 then, or at 1. */
  private static void surePerhapsOrNot(Due due) {
    BoatsMoveOn x = Scene.row(2, 4, 4, 1);
    x.seen(0, 0, 0, 0);
    x.seen(0, 0, 2, 2);
    int[] want = {2, 1, 1, 0};
    for (int stay = 0; stay <= 3; stay++) {
      due.is("text", Due.tell(x, "stay " + stay + ";"), stay);
      due.is("over 0 by a stay of " + stay, x.over(0, 0, stay, 2), want[stay]);
    }
    due.is("over 1 by a stay of 0", x.over(0, 1, 0, 2), 1);
    due.is("over 1 by a stay of 1", x.over(0, 1, 1, 2), 0);
    x.seen(0, 0, 1, 3);
    due.is("as known on 3, by a stay of 2", x.over(0, 0, 2, 3), 2);
    due.is("as known on 3, by a stay of 3", x.over(0, 0, 3, 3), 0);
  }

  private static void greatestAndLeast(Due due) {
    BoatsMoveOn x = Scene.row(2, 4, 4, 1);
    x.seen(0, 0, 0, 0);
    x.seen(0, 0, 2, 2);
    due.is("at least: 0 1 0", x.longest(0, 0, -1, 2, 0), 1);
    due.is("at most: 0 0 0", x.longest(0, 0, -1, 2, 1), 3);
    due.is("round 1 at least: 0 0 0", x.longest(0, 1, -1, 2, 0), 0);
    due.is("round 1 at most: 0 1 0", x.longest(0, 1, -1, 2, 1), 1);
    // Both stays of two days can't be left, so the least is two; excused, one.
    Scene.seenDaily(x, 0, 10, 0, 0);
    due.is("at least", x.longest(0, 0, -1, 11, 0), 2);
    due.is("at most", x.longest(0, 0, -1, 11, 1), 12);
    x.excuse(0, 11, 11, 12);
    due.is("at least, excused", x.longest(0, 0, -1, 12, 0), 1);
    due.is("at most, excused", x.longest(0, 0, -1, 12, 1), 11);
    BoatsMoveOn y = Scene.still(1);
    y.seen(0, 1, 0, 0);
    y.seen(0, 1, 59, 59);
    longest(due, y, 1, -1, 60);
    longest(due, y, 0, -1, 0);
    // 0 0 1 2, 0 1 1 2 or 0 1 2 2: never 0 0 2 2.
    BoatsMoveOn z = Scene.row(3, 4, 4, 1);
    z.seen(0, 0, 0, 0);
    z.seen(0, 2, 3, 3);
    Due.tell(z, "near here + there = 2;");
    due.is("each journey is at 1", z.longest(0, 1, -1, 3, 0), 1);
    due.is("none stays at 0 and 2 for longer", z.longest(0, 0, 0, 3, 1), 2);
  }

  private static void milesOfTheLaterDay(Due due) {
    BoatsMoveOn x = new BoatsMoveOn();
    x.place(0);
    x.place(0);
    x.way(0, 1, 4);
    x.way(0, 1, 9);
    x.boat();
    Scene.seenDaily(x, 0, 5, 0, 1);
    due.is("4 miles", x.far(0, 59, 1), 4);
    x.shut(0, 5, 5);
    due.is("shut on the day ahead", x.far(0, 59, 0), 4);
    due.is("shut on the day ahead", x.far(0, 59, 1), 4);
    x.shut(0, 6, 6);
    due.is("shut on the later day", x.far(0, 59, 0), 9);
    due.is("shut on the later day", x.far(0, 59, 1), 9);
  }

  private static void leastAndMostMiles(Due due) {
    BoatsMoveOn x = Scene.row(3, 4, 4, 1);
    x.seen(0, 1, 0, 0);
    due.is("one day: the least", x.far(0, 0, 0), 0);
    due.is("one day: the most", x.far(0, 0, 1), 0);
    x.seen(0, 1, 1, 1);
    due.is("two days at one place", x.far(0, 1, 1), 0);
    x.seen(0, 1, 3, 3);
    due.is("there and back: the least", x.far(0, 3, 0), 0);
    due.is("there and back: the most", x.far(0, 3, 1), 8);
    x.seen(0, 2, 4, 4);
    due.is("and on: the least", x.far(0, 4, 0), 4);
    due.is("and on: the most", x.far(0, 4, 1), 12);
    // 0 and 2 are too far from each other for one day, though it may be at either on both.
    BoatsMoveOn y = Scene.row(3, 4, 4, 1);
    y.seen(0, 1, 0, 0);
    y.seen(0, 1, 3, 3);
    due.is("may on 1", y.may(0, 1, 3), 7);
    due.is("may on 2", y.may(0, 2, 3), 7);
    due.is("no journey goes from 0 to 2", y.far(0, 3, 1), 8);
    BoatsMoveOn z = Scene.row(3, 4, 4, 1);
    z.seen(0, 0, 0, 0);
    z.seen(0, 2, 3, 3);
    due.is("each goes over 1", z.far(0, 3, 1), 8);
  }

  private static void mostAndLeastOfNeed(Due due) {
    BoatsMoveOn x = Scene.row(2, 4, 4, 1);
    x.seen(0, 0, 0, 0);
    x.seen(0, 1, 3, 3);
    // 4 to 12 miles.
    int[] needs = {4, 5, 12, 13};
    int[] want = {0, 1, 1, 2};
    for (int i = 0; i < 4; i++) {
      Due.tell(x, "need " + needs[i] + ";");
      due.is("short of " + needs[i], x.shortOf(0, i, 3), want[i]);
    }
  }

  private static void needOfZeroAtLeast(Due due) {
    BoatsMoveOn x = Scene.row(2, 30, 30, 1);
    x.seen(0, 0, 0, 0);
    x.seen(0, 1, 59, 59);
    Due.tell(x, "need 0;");
    Due.tell(x, "need 0 - 9999 * 9999;");
    Due.tell(x, "need 9999 * 9999;");
    Due.tell(x, "need 1;");
    due.is("0 miles aren't less than 0", x.shortOf(0, 0, 0), 0);
    due.is("nor than what is below 0", x.shortOf(0, 1, 0), 0);
    due.is("0 miles are less than 1", x.shortOf(0, 3, 0), 2);
    due.is("the most is less than 9999", x.shortOf(0, 2, 59), 2);
  }

  private static void withoutNeed(Due due) {
    int[] miles = {19, 20};
    int[] want = {2, 0};
    for (int i = 0; i < 2; i++) {
      BoatsMoveOn x = Scene.row(2, miles[i], miles[i], 1);
      Due.tell(x, "stay 1;");
      Scene.seenDaily(x, 0, 0, 0, 1);
      due.is(miles[i] + " miles without a rule", x.shortOf(0, -1, 1), want[i]);
      due.is(miles[i] + " miles without need", x.shortOf(0, 0, 1), want[i]);
    }
    BoatsMoveOn y = Scene.row(2, 10, 10, 1);
    y.seen(0, 0, 0, 0);
    y.seen(0, 0, 2, 2);
    due.is("0 to 20 miles", y.shortOf(0, -1, 2), 1);
  }

  private static void shortOrOver(Due due) {
    BoatsMoveOn x = Scene.row(10, 4, 4, 1);
    x.seen(0, 9, 0, 0);
    Due.tell(x, "need 0; stay 1;");
    Due.tell(x, "need 1; stay 1;");
    Due.tell(x, "need 0; stay 0;");
    due.is("neither", x.broken(0, 0, 0), 0);
    due.is("short for sure", x.broken(0, 1, 0), 1);
    due.is("over round the last place", x.broken(0, 2, 0), 1);
    due.is("round the last place alone", x.over(0, 0, 2, 0), 0);
    BoatsMoveOn y = Scene.row(3, 4, 4, 1);
    Scene.seenDaily(y, 0, 0, 2, 2);
    Due.tell(y, "need 0; near 1 = 1; stay 1 + here;");
    due.is("over round the first place alone", y.broken(0, 0, 1), 1);
    due.is("not round the next", y.over(0, 1, 0, 1), 0);
  }

  private static void perhapsIsNotBroken(Due due) {
    BoatsMoveOn x = Scene.row(2, 4, 4, 1);
    x.seen(0, 0, 0, 0);
    x.seen(0, 0, 2, 2);
    Due.tell(x, "need 8; stay 1;");
    due.is("short perhaps", x.shortOf(0, 0, 2), 1);
    due.is("over perhaps", x.over(0, 0, 0, 2), 1);
    due.is("not broken", x.broken(0, 0, 2), 0);
    // Each journey is over round 0 or round 1, but not all of them round one of both.
    Due.tell(x, "need 0; stay 2 - here * 2;");
    due.is("over round 0 perhaps", x.over(0, 0, 1, 2), 1);
    due.is("over round 1 perhaps", x.over(0, 1, 1, 2), 1);
    due.is("not broken", x.broken(0, 1, 2), 0);
  }

  private static void overAsKnown(Due due) {
    BoatsMoveOn x = Scene.row(2, 4, 4, 1);
    Due.tell(x, "stay 2;");
    x.seen(0, 0, 0, 0);
    x.seen(0, 0, 2, 2);
    x.seen(0, 0, 1, 3);
    due.is("as known on 1", x.over(0, 0, 0, 1), 0);
    due.is("as known on 2", x.over(0, 0, 0, 2), 1);
    due.is("as known on 3", x.over(0, 0, 0, 3), 2);
  }

  private static void noOver(Due due) {
    BoatsMoveOn x = Scene.still(2);
    due.is("never seen", x.over(0, 0, -1, 59), -1);
    x.seen(0, 0, 10, 10);
    due.is("not known yet", x.over(0, 0, -1, 9), -1);
    due.is("known", x.over(0, 0, -1, 10), 0);
    due.is("another one was never seen", x.over(1, 0, -1, 59), -1);
    x.seen(0, 1, 11, 11);
    due.is("impossible", x.over(0, 0, -1, 11), -1);
    for (int boat : new int[] {-1, 2, 8, MIN, MAX}) {
      due.is("boat " + boat, x.over(boat, 0, -1, 10), -1);
    }
    for (int place : new int[] {-1, 2, 10, MIN, MAX}) {
      due.is("place " + place, x.over(0, place, -1, 10), -1);
    }
    for (int rule : new int[] {-2, 0, 4, MIN, MAX}) {
      due.is("rule " + rule, x.over(0, 0, rule, 10), -1);
    }
    for (int k : Scene.NO_DAYS) {
      due.is("k " + k, x.over(0, 0, -1, k), -1);
    }
  }

  private static void atLeastAndAtMost(Due due) {
    BoatsMoveOn x = Scene.row(2, 4, 4, 1);
    x.seen(0, 0, 0, 0);
    x.seen(0, 0, 59, 59);
    due.is("0", x.longest(0, 0, -1, 59, 0), 1);
    due.is("1", x.longest(0, 0, -1, 59, 1), 60);
    due.is("0 round the other place", x.longest(0, 1, -1, 59, 0), 0);
    due.is("1 round the other place", x.longest(0, 1, -1, 59, 1), 58);
    due.is("as known on 58", x.longest(0, 0, -1, 58, 1), 1);
  }

  private static void noLongest(Due due) {
    BoatsMoveOn x = Scene.still(2);
    for (int what = 0; what <= 1; what++) {
      due.is("never seen", x.longest(0, 0, -1, 59, what), -1);
    }
    x.seen(0, 0, 10, 10);
    due.is("not known yet", x.longest(0, 0, -1, 9, 0), -1);
    due.is("known", x.longest(0, 0, -1, 10, 0), 1);
    due.is("another one was never seen", x.longest(1, 0, -1, 59, 0), -1);
    x.seen(0, 1, 11, 11);
    for (int what = 0; what <= 1; what++) {
      due.is("impossible", x.longest(0, 0, -1, 11, what), -1);
    }
    for (int boat : new int[] {-1, 2, 8, MIN, MAX}) {
      due.is("boat " + boat, x.longest(boat, 0, -1, 10, 0), -1);
    }
    for (int place : new int[] {-1, 2, 10, MIN, MAX}) {
      due.is("place " + place, x.longest(0, place, -1, 10, 0), -1);
    }
    for (int rule : new int[] {-2, 0, 4, MIN, MAX}) {
      due.is("rule " + rule, x.longest(0, 0, rule, 10, 0), -1);
    }
    for (int k : Scene.NO_DAYS) {
      due.is("k " + k, x.longest(0, 0, -1, k, 0), -1);
    }
    for (int what : new int[] {-1, 2, MIN, MAX}) {
      due.is("what " + what, x.longest(0, 0, -1, 10, what), -1);
    }
  }

  private static void farthestOfAll(Due due) {
    BoatsMoveOn x = Scene.row(3, 30, 60, 1);
    x.seen(0, 0, 0, 0);
    x.seen(0, 2, 59, 59);
    due.is("0", x.far(0, 59, 0), 60);
    due.is("1", x.far(0, 59, 1), 59 * 60);
    due.is("as known on 58: 0", x.far(0, 58, 0), 0);
    due.is("as known on 58: 1", x.far(0, 58, 1), 0);
  }

  private static void noFar(Due due) {
    BoatsMoveOn x = Scene.still(2);
    for (int what = 0; what <= 1; what++) {
      due.is("never seen", x.far(0, 59, what), -1);
    }
    x.seen(0, 0, 10, 10);
    due.is("not known yet", x.far(0, 9, 0), -1);
    due.is("known", x.far(0, 10, 0), 0);
    due.is("another one was never seen", x.far(1, 59, 1), -1);
    x.seen(0, 1, 11, 11);
    for (int what = 0; what <= 1; what++) {
      due.is("impossible", x.far(0, 11, what), -1);
    }
    for (int boat : new int[] {-1, 2, 8, MIN, MAX}) {
      due.is("boat " + boat, x.far(boat, 10, 0), -1);
    }
    for (int k : Scene.NO_DAYS) {
      due.is("k " + k, x.far(0, k, 0), -1);
    }
    for (int what : new int[] {-1, 2, MIN, MAX}) {
      due.is("what " + what, x.far(0, 10, what), -1);
    }
  }

  private static void shortAsKnown(Due due) {
    BoatsMoveOn x = Scene.row(2, 4, 4, 1);
    Due.tell(x, "need 8;");
    x.seen(0, 0, 0, 0);
    x.seen(0, 0, 2, 2);
    due.is("as known on 1", x.shortOf(0, 0, 1), 2);
    due.is("as known on 2", x.shortOf(0, 0, 2), 1);
    x.seen(0, 1, 1, 3);
    due.is("as known on 3", x.shortOf(0, 0, 3), 0);
  }

  private static void noShort(Due due) {
    BoatsMoveOn x = Scene.still(2);
    due.is("never seen", x.shortOf(0, -1, 59), -1);
    x.seen(0, 0, 10, 10);
    due.is("not known yet", x.shortOf(0, -1, 9), -1);
    due.is("known", x.shortOf(0, -1, 10), 2);
    due.is("another one was never seen", x.shortOf(1, -1, 59), -1);
    x.seen(0, 1, 11, 11);
    due.is("impossible", x.shortOf(0, -1, 11), -1);
    for (int boat : new int[] {-1, 2, 8, MIN, MAX}) {
      due.is("boat " + boat, x.shortOf(boat, -1, 10), -1);
    }
    for (int rule : new int[] {-2, 0, 4, MIN, MAX}) {
      due.is("rule " + rule, x.shortOf(0, rule, 10), -1);
    }
    for (int k : Scene.NO_DAYS) {
      due.is("k " + k, x.shortOf(0, -1, k), -1);
    }
  }

  private static void brokenAsKnown(Due due) {
    BoatsMoveOn x = Scene.still(1);
    Due.tell(x, "need 0; stay 1;");
    x.seen(0, 0, 0, 0);
    x.seen(0, 0, 1, 1);
    x.excuse(0, 1, 1, 2);
    due.is("as known on 0", x.broken(0, 0, 0), 0);
    due.is("as known on 1", x.broken(0, 0, 1), 1);
    due.is("as known on 2", x.broken(0, 0, 2), 0);
    due.is("without a rule", x.broken(0, -1, 2), 1);
  }

  private static void noBroken(Due due) {
    BoatsMoveOn x = Scene.still(2);
    due.is("never seen", x.broken(0, -1, 59), -1);
    x.seen(0, 0, 10, 10);
    due.is("not known yet", x.broken(0, -1, 9), -1);
    due.is("known", x.broken(0, -1, 10), 1);
    due.is("another one was never seen", x.broken(1, -1, 59), -1);
    x.seen(0, 1, 11, 11);
    due.is("impossible", x.broken(0, -1, 11), -1);
    for (int boat : new int[] {-1, 2, 8, MIN, MAX}) {
      due.is("boat " + boat, x.broken(boat, -1, 10), -1);
    }
    for (int rule : new int[] {-2, 0, 4, MIN, MAX}) {
      due.is("rule " + rule, x.broken(0, rule, 10), -1);
    }
    for (int k : Scene.NO_DAYS) {
      due.is("k " + k, x.broken(0, -1, k), -1);
    }
  }
}
