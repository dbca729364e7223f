import java.util.List;

/** Boundary cases of what is told: promises 1 to 8, and the terms of part I on which they rest. */
final class TellingEdges {
  private static final int MIN = Scene.MIN;
  private static final int MAX = Scene.MAX;

  private TellingEdges() {}

  static void addTo(Edges edges) {
    addTerms(edges);
    edges.promise(1, "Nothing told; THE IMAGE is this.", TellingEdges::nothingTold);
    edges.promise(1, "Nothing told; THE IMAGE is this.", TellingEdges::firstImage);
    edges.promise(2, "A PLACE: its number.", TellingEdges::placeNumbers);
    edges.promise(2, "NONE for others, or if there are 10.", TellingEdges::wrongParishes);
    edges.promise(2, "NONE for others, or if there are 10.", TellingEdges::eleventhPlace);
    edges.promise(3, "A WAY between two unlike PLACES: its number.", TellingEdges::unlikePlaces);
    edges.promise(3, "NONE for others, or if there are 15.", TellingEdges::wrongWays);
    edges.promise(3, "NONE for others, or if there are 15.", TellingEdges::sixteenthWay);
    edges.promise(4, "SHUT (from at most to): how many there are.", TellingEdges::fromAtMostTo);
    edges.promise(4, "NONE for others, or if there are 10.", TellingEdges::wrongShuts);
    edges.promise(4, "NONE for others, or if there are 10.", TellingEdges::eleventhShut);
    edges.promise(5, "PACE: true.", TellingEdges::leastAndGreatestPace);
    edges.promise(5, "False for others.", TellingEdges::wrongPaces);
    edges.promise(6, "A BOAT: its number.", TellingEdges::boatNumbers);
    edges.promise(6, "NONE, if there are 8.", TellingEdges::ninthBoat);
    edges.promise(
        7, "SEEN on a DAY, TOLD on a DAY: how many there are.", TellingEdges::sightingsCount);
    edges.promise(7, "NONE for others, or if there are 60.", TellingEdges::wrongSightings);
    edges.promise(7, "NONE for others, or if there are 60.", TellingEdges::sixtyFirstSighting);
    edges.promise(
        8,
        "An EXCUSE (from at most to), PROVED on a DAY: how many there are.",
        TellingEdges::excusesCount);
    edges.promise(8, "NONE for others, or if there are 20.", TellingEdges::wrongExcuses);
    edges.promise(8, "NONE for others, or if there are 20.", TellingEdges::twentyFirstExcuse);
  }

  private static void addTerms(Edges edges) {
    edges.whatItIs(
        "An object is used for at most 512 calls after it has been made; what later calls answer"
            + " is free.",
        TellingEdges::the512thCall);
    edges.term("The constants: `NONE = -1`: None.", TellingEdges::none);
    edges.term(
        "PLACES 0 .. 9 (told one by one), each of a PARISH (0 .. 9).", TellingEdges::tenPlaces);
    edges.term(
        "WAYS 0 .. 14 (told one by one) between two PLACES: MILES (1 .. 30).",
        TellingEdges::fifteenWays);
    edges.term(
        "SHUT (10 at most): a WAY from a DAY to a DAY (both shut, too).",
        TellingEdges::bothEndsShut);
    edges.term(
        "SHUT (10 at most): a WAY from a DAY to a DAY (both shut, too).",
        TellingEdges::tenUnlikeSpans);
    edges.term("DAYS 0 .. 59.", TellingEdges::daysOfTelling);
    edges.term("DAYS 0 .. 59.", TellingEdges::daysOfAsking);
    edges.term("PACE (1 .. 60 MILES a DAY; at first 10).", TellingEdges::paceAtFirst);
    edges.term("BOATS 0 .. 7 (told one by one).", TellingEdges::eightBoats);
    edges.term(
        "SEEN (60 at most): a BOAT at a PLACE on a DAY, TOLD on a DAY (not ahead of it).",
        TellingEdges::toldNotAhead);
    edges.term(
        "EXCUSES (20 at most): a BOAT from a DAY to a DAY, PROVED on a DAY.",
        TellingEdges::provedOnAnyDay);
  }

  private static void the512thCall(Due due) {
    BoatsMoveOn x = Scene.row(10, 3, 60, 8);
    // 10 places, 10 ways (the first of them refused), a pace and 8 boats were 29 calls.
    x.seen(7, 9, 0, 0);
    x.seen(7, 9, 59, 59);
    for (int calls = 31; calls < 511; calls++) {
      due.is("look, call " + (calls + 1), x.look(7, 30, 59, 0), 0);
    }
    due.is("the 512th call", x.known(7, 59, 3), 58 * 9);
    for (int i = 0; i < 100; i++) {
      x.look(7, 30, 59, 0);
    }
    due.is("later ones don't throw", true, true);
  }

  private static void none(Due due) {
    due.is("NONE", BoatsMoveOn.NONE, -1);
  }

  private static void nothingTold(Due due) {
    BoatsMoveOn x = new BoatsMoveOn();
    int[] want = {0, 0, 0, 10, 0, 0, 0, 0, 0};
    for (int what = 0; what < want.length; what++) {
      due.is("about(" + what + ")", x.about(what), want[what]);
    }
    due.is("no boat: about(10)", x.about(10), -2);
    due.is("no boat: about(20)", x.about(20), -2);
    due.is("nothing read: fault(0)", x.fault(0), -1);
    due.is("no place: miles(-1, 0, 0)", x.miles(-1, 0, 0), -1);
    due.is("no place: round(-1, 0)", x.round(-1, 0), -1);
    due.is("no place: crowd(0, 0, 0, 1)", x.crowd(0, 0, 0, 1), -1);
    due.is("no boat: may(0, 0, 0)", x.may(0, 0, 0), -1);
    due.is("no boat: appeal(0, 0)", x.appeal(0, 0), -1);
    due.is("an empty tape: end(1)", x.end(1), -1);
  }

  private static void firstImage(Due due) {
    BoatsMoveOn x = new BoatsMoveOn();
    List<Integer> atFirst = Scene.counts(x);
    x.place(9);
    x.place(9);
    x.way(0, 1, 30);
    x.shut(0, 0, 59);
    x.pace(60);
    x.boat();
    x.seen(0, 0, 0, 0);
    x.excuse(0, 0, 0, 0);
    x.send(0, -1, 0);
    due.is("back()", x.back(), 0);
    due.is("all is gone:", Scene.counts(x), atFirst);
    due.is("the first place again", x.place(0), 0);
    due.is("the first boat again", x.boat(), 0);
    due.is("it has no letter", x.about(10), 0);
    due.is("it was never seen", x.known(0, 59, 0), -1);
  }

  private static void tenPlaces(Due due) {
    BoatsMoveOn x = new BoatsMoveOn();
    for (int i = 0; i < 10; i++) {
      due.is("round place " + i + ", which isn't told", x.round(-1, i), -1);
      due.is("a refused one takes no number", x.place(10), -1);
      due.is("place " + i, x.place(9 - i), i);
      due.is("round place " + i, x.round(-1, i), 1 << i);
      due.is("it is a place of miles at once", x.miles(0, i, i), 0);
    }
    Due.tell(x, "near theirs = 0 or theirs = 9;");
    due.is("the first has parish 9, the last 0", x.round(0, 0), 1 | 1 << 9);
  }

  private static void placeNumbers(Due due) {
    BoatsMoveOn x = new BoatsMoveOn();
    due.is("the least parish", x.place(0), 0);
    due.is("the greatest parish", x.place(9), 1);
    due.is("a parish that was there", x.place(9), 2);
    due.is("about(0)", x.about(0), 3);
  }

  private static void wrongParishes(Due due) {
    BoatsMoveOn x = Scene.row(2, 5, 10, 1);
    List<Integer> before = Scene.counts(x);
    for (int parish : new int[] {-1, 10, MIN, MAX}) {
      due.is("place(" + parish + ")", x.place(parish), -1);
    }
    due.is("refused, nothing changed:", Scene.counts(x), before);
  }

  private static void eleventhPlace(Due due) {
    BoatsMoveOn x = Scene.row(9, 5, 10, 0);
    x.image();
    due.is("the tenth", x.place(0), 9);
    List<Integer> before = Scene.counts(x);
    due.is("an eleventh", x.place(0), -1);
    due.is("refused, nothing changed:", Scene.counts(x), before);
    due.is("place 10 isn't", x.round(-1, 10), -1);
    due.is("place 9 is", x.round(-1, 9), 512);
    x.back();
    due.is("there is room again", x.place(1), 9);
  }

  private static void fifteenWays(Due due) {
    BoatsMoveOn x = Scene.row(2, 30, 60, 0);
    due.is("way 0 has 30 miles", x.miles(-1, 0, 1), 30);
    for (int i = 1; i < 15; i++) {
      due.is("way " + i + " isn't told: shut", x.shut(i, 0, 59), -1);
      due.is("a refused one takes no number", x.way(0, 1, 31), -1);
      due.is("way " + i, x.way(1, 0, 30 - 2 * i), i);
      due.is("the least of all", x.miles(-1, 0, 1), 30 - 2 * i);
    }
    due.is("way 14 can be shut", x.shut(14, 0, 59), 1);
    due.is("then it is that of way 13", x.miles(0, 0, 1), 4);
    BoatsMoveOn y = new BoatsMoveOn();
    y.place(0);
    y.place(0);
    y.way(0, 1, 1);
    due.is("a way of one mile", y.miles(-1, 1, 0), 1);
  }

  private static void unlikePlaces(Due due) {
    BoatsMoveOn x = Scene.row(3, 5, 10, 0);
    List<Integer> before = Scene.counts(x);
    for (int place = 0; place < 3; place++) {
      due.is("way to itself: " + place, x.way(place, place, 5), -1);
    }
    due.is("refused, nothing changed:", Scene.counts(x), before);
    due.is("way(2, 0, 1)", x.way(2, 0, 1), 2);
    due.is("the same once more", x.way(2, 0, 1), 3);
    due.is("the other way round", x.way(0, 2, 1), 4);
    due.is("about(1)", x.about(1), 5);
  }

  private static void wrongWays(Due due) {
    BoatsMoveOn x = Scene.row(2, 5, 10, 0);
    List<Integer> before = Scene.counts(x);
    for (int place : new int[] {-1, 2, 10, MIN, MAX}) {
      due.is("way(0, " + place + ", 5)", x.way(0, place, 5), -1);
      due.is("way(" + place + ", 0, 5)", x.way(place, 0, 5), -1);
    }
    for (int miles : new int[] {0, -1, 31, MIN, MAX}) {
      due.is("way(0, 1, " + miles + ")", x.way(0, 1, miles), -1);
    }
    due.is("refused, nothing changed:", Scene.counts(x), before);
    due.is("miles(-1, 0, 1)", x.miles(-1, 0, 1), 5);
  }

  private static void sixteenthWay(Due due) {
    BoatsMoveOn x = Scene.row(2, 5, 10, 0);
    for (int i = 1; i < 14; i++) {
      x.way(0, 1, 9);
    }
    x.image();
    due.is("the fifteenth", x.way(0, 1, 9), 14);
    List<Integer> before = Scene.counts(x);
    due.is("a sixteenth", x.way(0, 1, 1), -1);
    due.is("refused, nothing changed:", Scene.counts(x), before);
    due.is("it is no way", x.miles(-1, 0, 1), 5);
    due.is("way 15 can't be shut", x.shut(15, 0, 0), -1);
    x.back();
    due.is("there is room again", x.way(0, 1, 2), 14);
    due.is("and it is a way", x.miles(-1, 0, 1), 2);
  }

  private static void bothEndsShut(Due due) {
    BoatsMoveOn x = Scene.row(2, 5, 10, 0);
    x.shut(0, 3, 6);
    int[] want = {5, -1, -1, -1, -1, 5};
    for (int day = 2; day <= 7; day++) {
      due.is("miles on " + day, x.miles(day, 0, 1), want[day - 2]);
    }
    x.shut(0, 0, 0);
    due.is("shut on the first day alone", x.miles(0, 0, 1), -1);
    due.is("not on the next", x.miles(1, 0, 1), 5);
    x.shut(0, 59, 59);
    due.is("shut on the last day alone", x.miles(59, 0, 1), -1);
    due.is("not on the one ahead", x.miles(58, 0, 1), 5);
    for (int i = 4; i < 10; i++) {
      due.is("the like once more", x.shut(0, 59, 59), i);
    }
    due.is("the tenth", x.shut(0, 40, 41), 10);
    due.is("is one", x.miles(40, 0, 1), -1);
    due.is("from its first to its last day", x.miles(41, 0, 1), -1);
  }

  /** Ten spans that begin and end one behind the other: no days can be unlike more often. */
  private static void tenUnlikeSpans(Due due) {
    BoatsMoveOn x = Scene.row(10, 5, 10, 0);
    x.way(0, 1, 7);
    for (int way = 0; way < 10; way++) {
      x.shut(way, 2 + 2 * way, 31 + 2 * way);
    }
    for (int day = 0; day < 60; day += 2) {
      for (int place = 0; place < 9; place++) {
        boolean isShut = day >= 2 + 2 * place && day <= 31 + 2 * place;
        boolean otherIsShut = place > 0 || (day >= 20 && day <= 49);
        int want = !isShut ? 5 : !otherIsShut ? 7 : -1;
        due.is("miles from " + place + " on " + day, x.miles(day, place, place + 1), want);
      }
    }
  }

  private static void fromAtMostTo(Due due) {
    BoatsMoveOn x = Scene.row(2, 5, 10, 0);
    due.is("from is to", x.shut(0, 30, 30), 1);
    due.is("from is one above to", x.shut(0, 31, 30), -1);
    due.is("the widest", x.shut(0, 0, 59), 2);
    due.is("the widest, turned round", x.shut(0, 59, 0), -1);
    due.is("about(2)", x.about(2), 2);
  }

  private static void wrongShuts(Due due) {
    BoatsMoveOn x = Scene.row(2, 5, 10, 0);
    List<Integer> before = Scene.counts(x);
    for (int way : new int[] {-1, 1, 15, MIN, MAX}) {
      due.is("shut(" + way + ", 0, 59)", x.shut(way, 0, 59), -1);
    }
    for (int day : Scene.NO_DAYS) {
      due.is("shut(0, " + day + ", 59)", x.shut(0, day, 59), -1);
      due.is("shut(0, 0, " + day + ")", x.shut(0, 0, day), -1);
    }
    due.is("shut(0, 60, 61)", x.shut(0, 60, 61), -1);
    due.is("shut(0, -2, -1)", x.shut(0, -2, -1), -1);
    due.is("refused, nothing changed:", Scene.counts(x), before);
    due.is("miles(59, 0, 1)", x.miles(59, 0, 1), 5);
    due.is("miles(0, 0, 1)", x.miles(0, 0, 1), 5);
  }

  private static void eleventhShut(Due due) {
    BoatsMoveOn x = Scene.row(2, 5, 10, 0);
    for (int i = 0; i < 9; i++) {
      x.shut(0, i, i);
    }
    x.image();
    due.is("the tenth", x.shut(0, 9, 9), 10);
    List<Integer> before = Scene.counts(x);
    due.is("an eleventh", x.shut(0, 10, 10), -1);
    due.is("refused, nothing changed:", Scene.counts(x), before);
    due.is("the way is open then", x.miles(10, 0, 1), 5);
    x.back();
    due.is("there is room again", x.shut(0, 10, 10), 10);
    due.is("now it is shut", x.miles(10, 0, 1), -1);
    due.is("what was shut behind the image isn't", x.miles(9, 0, 1), 5);
  }

  private static void daysOfTelling(Due due) {
    BoatsMoveOn x = Scene.row(2, 5, 10, 1);
    due.is("shut from 0 to 59", x.shut(0, 0, 59), 1);
    due.is("shut to 60", x.shut(0, 59, 60), -1);
    due.is("shut from -1", x.shut(0, -1, 0), -1);
    due.is("seen and told on 0", x.seen(0, 0, 0, 0), 1);
    due.is("seen and told on 59", x.seen(0, 0, 59, 59), 2);
    due.is("seen on -1", x.seen(0, 0, -1, 0), -1);
    due.is("seen on 60", x.seen(0, 0, 60, 60), -1);
    due.is("told on 60", x.seen(0, 0, 59, 60), -1);
    due.is("excuse from 0 to 59 proved on 59", x.excuse(0, 0, 59, 59), 1);
    due.is("excuse proved on 0", x.excuse(0, 59, 59, 0), 2);
    due.is("excuse from -1", x.excuse(0, -1, 0, 0), -1);
    due.is("excuse to 60", x.excuse(0, 59, 60, 0), -1);
    due.is("proved on -1", x.excuse(0, 0, 0, -1), -1);
    due.is("proved on 60", x.excuse(0, 0, 0, 60), -1);
    due.is("miles of 0", x.miles(0, 0, 0), 0);
    due.is("miles of 59", x.miles(59, 0, 0), 0);
    due.is("miles of 60", x.miles(60, 0, 0), -1);
    due.is("miles of -2", x.miles(-2, 0, 0), -1);
    due.is("a letter on 60", x.send(0, -1, 60), -1);
    due.is("a letter on -1", x.send(0, -1, -1), -1);
    due.is("a letter on 0", x.send(0, -1, 0), 1);
    due.is("a letter on 59", x.send(0, -1, 59), 2);
    due.is("an appeal on 60", x.appeal(0, 60), -1);
    due.is("an appeal on 59: short for sure", x.appeal(0, 59), -1);
  }

  /** Both boats stay where they are from day 0 to 59; on 0 only that of day 0 is known. */
  private static void daysOfAsking(Due due) {
    BoatsMoveOn x = Scene.still(2);
    for (int boat = 0; boat < 2; boat++) {
      x.seen(boat, 0, 0, 0);
      x.seen(boat, 0, 59, 59);
    }
    int[] days = {0, 59, -1, 60, MIN, MAX};
    for (int day : days) {
      boolean is = day == 0 || day == 59;
      due.is("may on " + day, x.may(0, day, 59), is ? 1 : -1);
      due.is("look on " + day, x.look(0, day, 59, 0), is ? 0 : -1);
      due.is("crowd on " + day, x.crowd(0, day, 59, 0), is ? 2 : -1);
      due.is("may as known on " + day, x.may(0, 0, day), is ? 1 : -1);
      due.is("known on " + day, x.known(0, day, 1), is ? day : -1);
      due.is("over as known on " + day, x.over(0, 1, -1, day), is ? 0 : -1);
      due.is("longest as known on " + day, x.longest(0, 0, -1, day, 0), is ? day + 1 : -1);
      due.is("far as known on " + day, x.far(0, day, 1), is ? 0 : -1);
      due.is("shortOf as known on " + day, x.shortOf(0, -1, day), is ? 2 : -1);
      due.is("broken as known on " + day, x.broken(0, -1, day), is ? 1 : -1);
      due.is("look as known on " + day, x.look(0, 0, day, 0), is ? 0 : -1);
      due.is("crowd as known on " + day, x.crowd(0, 0, day, 1), is ? 2 : -1);
      due.is("tied as known on " + day, x.tied(0, 1, day), is ? 1 : -1);
      due.is("swapped as known on " + day, x.swapped(0, 1, day, -1), is ? 0 : -1);
    }
  }

  private static void paceAtFirst(Due due) {
    BoatsMoveOn x = new BoatsMoveOn();
    x.place(0);
    x.place(0);
    x.place(0);
    x.way(0, 1, 10);
    x.way(1, 2, 11);
    x.boat();
    x.boat();
    Scene.seenDaily(x, 0, 5, 0, 1);
    Scene.seenDaily(x, 1, 5, 1, 2);
    due.is("about(3)", x.about(3), 10);
    due.is("10 miles in a day", x.known(0, 59, 2), 0);
    due.is("11 miles in a day", x.known(1, 59, 2), 1);
    x.pace(1);
    due.is("10 miles at a pace of 1", x.known(0, 59, 2), 1);
    x.pace(60);
    due.is("11 miles at a pace of 60", x.known(1, 59, 2), 0);
    BoatsMoveOn y = Scene.row(4, 30, 60, 2);
    Scene.seenDaily(y, 0, 0, 0, 2);
    Scene.seenDaily(y, 1, 0, 0, 3);
    due.is("60 miles at a pace of 60", y.known(0, 59, 2), 0);
    due.is("90 miles at a pace of 60", y.known(1, 59, 2), 1);
    BoatsMoveOn z = Scene.row(3, 1, 1, 2);
    Scene.seenDaily(z, 0, 0, 0, 1);
    Scene.seenDaily(z, 1, 0, 0, 2);
    due.is("1 mile at a pace of 1", z.known(0, 59, 2), 0);
    due.is("2 miles at a pace of 1", z.known(1, 59, 2), 1);
  }

  private static void leastAndGreatestPace(Due due) {
    BoatsMoveOn x = new BoatsMoveOn();
    due.is("pace(1)", x.pace(1), true);
    due.is("about(3)", x.about(3), 1);
    due.is("pace(60)", x.pace(60), true);
    due.is("about(3)", x.about(3), 60);
    due.is("the same once more", x.pace(60), true);
    due.is("about(3)", x.about(3), 60);
  }

  private static void wrongPaces(Due due) {
    BoatsMoveOn x = Scene.row(2, 30, 30, 1);
    Scene.seenDaily(x, 0, 0, 0, 1);
    List<Integer> before = Scene.counts(x);
    for (int pace : new int[] {0, -1, 61, MIN, MAX}) {
      due.is("pace(" + pace + ")", x.pace(pace), false);
    }
    due.is("refused, nothing changed:", Scene.counts(x), before);
    due.is("30 miles at a pace of 30", x.known(0, 59, 2), 0);
  }

  private static void eightBoats(Due due) {
    BoatsMoveOn x = Scene.row(1, 1, 10, 0);
    for (int i = 0; i < 8; i++) {
      due.is("boat " + i + " isn't told: seen", x.seen(i, 0, 0, 0), -1);
      due.is("boat " + i, x.boat(), i);
      due.is("boat " + i + " was seen", x.seen(i, 0, 0, 0), i + 1);
    }
    due.is("all eight are there", x.crowd(0, 0, 0, 0), 8);
  }

  private static void boatNumbers(Due due) {
    BoatsMoveOn x = new BoatsMoveOn();
    due.is("a boat without a place", x.boat(), 0);
    due.is("the next", x.boat(), 1);
    due.is("about(4)", x.about(4), 2);
    due.is("its step", x.about(11), 0);
  }

  private static void ninthBoat(Due due) {
    BoatsMoveOn x = Scene.row(1, 1, 10, 7);
    x.image();
    due.is("the eighth", x.boat(), 7);
    List<Integer> before = Scene.counts(x);
    due.is("a ninth", x.boat(), -1);
    due.is("refused, nothing changed:", Scene.counts(x), before);
    due.is("boat 8 isn't", x.seen(8, 0, 0, 0), -1);
    due.is("boat 8 has no step", x.about(18), -2);
    x.back();
    due.is("there is room again", x.boat(), 7);
  }

  private static void toldNotAhead(Due due) {
    BoatsMoveOn x = Scene.still(1);
    due.is("told on its day", x.seen(0, 0, 30, 30), 1);
    due.is("told a day ahead", x.seen(0, 0, 30, 29), -1);
    due.is("told on the last day", x.seen(0, 0, 30, 59), 2);
    due.is("seen on the last, told on the first", x.seen(0, 0, 59, 0), -1);
    for (int i = 3; i < 60; i++) {
      x.seen(0, 0, 30, 30);
    }
    due.is("the sixtieth", x.seen(0, 0, 40, 41), 60);
    due.is("it is known", x.known(0, 41, 1), 40);
    due.is("not ahead of being told", x.known(0, 40, 1), 30);
  }

  private static void sightingsCount(Due due) {
    BoatsMoveOn x = Scene.still(2);
    due.is("the first", x.seen(1, 1, 59, 59), 1);
    due.is("the same once more", x.seen(1, 1, 59, 59), 2);
    due.is("another boat, all counted together", x.seen(0, 0, 0, 0), 3);
    due.is("an impossible one is one, too", x.seen(0, 1, 0, 0), 4);
    due.is("about(5)", x.about(5), 4);
  }

  private static void wrongSightings(Due due) {
    BoatsMoveOn x = Scene.still(1);
    List<Integer> before = Scene.counts(x);
    for (int boat : new int[] {-1, 1, 8, MIN, MAX}) {
      due.is("seen(" + boat + ", 0, 0, 0)", x.seen(boat, 0, 0, 0), -1);
    }
    for (int place : new int[] {-1, 2, 10, MIN, MAX}) {
      due.is("seen(0, " + place + ", 0, 0)", x.seen(0, place, 0, 0), -1);
    }
    for (int day : Scene.NO_DAYS) {
      due.is("seen(0, 0, " + day + ", 59)", x.seen(0, 0, day, 59), -1);
      due.is("seen(0, 0, 0, " + day + ")", x.seen(0, 0, 0, day), -1);
    }
    due.is("seen(0, 0, 60, 61)", x.seen(0, 0, 60, 61), -1);
    due.is("seen(0, 0, 1, 0)", x.seen(0, 0, 1, 0), -1);
    due.is("refused, nothing changed:", Scene.counts(x), before);
    due.is("never seen", x.known(0, 59, 0), -1);
  }

  private static void sixtyFirstSighting(Due due) {
    BoatsMoveOn x = Scene.still(1);
    for (int day = 0; day < 59; day++) {
      x.seen(0, 0, day, day);
    }
    x.image();
    due.is("the sixtieth", x.seen(0, 0, 58, 58), 60);
    List<Integer> before = Scene.counts(x);
    due.is("a sixty-first", x.seen(0, 0, 59, 59), -1);
    due.is("refused, nothing changed:", Scene.counts(x), before);
    due.is("it isn't known", x.known(0, 59, 1), 58);
    x.back();
    due.is("there is room again", x.seen(0, 0, 59, 59), 60);
    due.is("now it is known", x.known(0, 59, 1), 59);
  }

  private static void provedOnAnyDay(Due due) {
    BoatsMoveOn x = Scene.still(1);
    x.seen(0, 0, 0, 0);
    x.seen(0, 0, 39, 39);
    due.is("proved ahead of its days", x.excuse(0, 10, 19, 0), 1);
    due.is("ten of forty days", x.longest(0, 0, -1, 39, 1), 30);
    for (int i = 2; i < 20; i++) {
      x.excuse(0, 10, 19, 0);
    }
    due.is("the twentieth, proved later", x.excuse(0, 39, 59, 45), 20);
    due.is("not proved yet", x.longest(0, 0, -1, 44, 1), 30);
    due.is("proved: the last day of forty", x.longest(0, 0, -1, 45, 1), 29);
  }

  private static void excusesCount(Due due) {
    BoatsMoveOn x = Scene.still(2);
    due.is("from is to", x.excuse(1, 59, 59, 0), 1);
    due.is("from is one above to", x.excuse(1, 59, 58, 0), -1);
    due.is("the same once more", x.excuse(1, 59, 59, 0), 2);
    due.is("another boat, all counted together", x.excuse(0, 0, 59, 59), 3);
    due.is("about(6)", x.about(6), 3);
  }

  private static void wrongExcuses(Due due) {
    BoatsMoveOn x = Scene.still(1);
    x.seen(0, 0, 0, 0);
    x.seen(0, 0, 9, 9);
    List<Integer> before = Scene.counts(x);
    for (int boat : new int[] {-1, 1, 8, MIN, MAX}) {
      due.is("excuse(" + boat + ", 0, 9, 0)", x.excuse(boat, 0, 9, 0), -1);
    }
    for (int day : Scene.NO_DAYS) {
      due.is("excuse(0, " + day + ", 59, 0)", x.excuse(0, day, 59, 0), -1);
      due.is("excuse(0, 0, " + day + ", 0)", x.excuse(0, 0, day, 0), -1);
      due.is("excuse(0, 0, 9, " + day + ")", x.excuse(0, 0, 9, day), -1);
    }
    due.is("excuse(0, 9, 0, 0)", x.excuse(0, 9, 0, 0), -1);
    due.is("excuse(0, 60, 61, 0)", x.excuse(0, 60, 61, 0), -1);
    due.is("refused, nothing changed:", Scene.counts(x), before);
    due.is("no day is excused", x.longest(0, 0, -1, 59, 0), 10);
  }

  private static void twentyFirstExcuse(Due due) {
    BoatsMoveOn x = Scene.still(1);
    x.seen(0, 0, 0, 0);
    x.seen(0, 0, 29, 29);
    for (int day = 0; day < 19; day++) {
      x.excuse(0, day, day, 0);
    }
    x.image();
    due.is("the twentieth", x.excuse(0, 19, 19, 0), 20);
    List<Integer> before = Scene.counts(x);
    due.is("a twenty-first", x.excuse(0, 20, 29, 0), -1);
    due.is("refused, nothing changed:", Scene.counts(x), before);
    due.is("it excuses nothing", x.longest(0, 0, -1, 59, 0), 10);
    x.back();
    due.is("there is room again", x.excuse(0, 20, 29, 0), 20);
    due.is("now it excuses; day 19 isn't any more", x.longest(0, 0, -1, 59, 0), 1);
  }
}
