import java.util.List;

/** Boundary cases of letters and appeals: promises 23 and 24. */
final class LetterEdges {
  private static final int MIN = Scene.MIN;
  private static final int MAX = Scene.MAX;

  private static final String STEPS = "LETTERS of a BOAT: STEP 0 to 3 (at first 0).";
  private static final String SENT =
      "SENT on a DAY by a RULE: if it is BROKEN as known on that DAY, STEP is below 3, and the"
          + " latest LETTER, if there is one, was sent 14 DAYS ago or more: STEP is one more.";
  private static final String APPEAL =
      "APPEAL on a DAY (not ahead of the latest LETTER): as known on it, but only what was SEEN on"
          + " DAYS up to that of the latest LETTER: if it isn't BROKEN by the RULE of that LETTER,"
          + " STEP is one less (the latest LETTER is then the one ahead of it).";
  private static final String APPEAL_NONE =
      "NONE: there is no LETTER, the DAY is ahead of it, it stays, and for others.";

  private LetterEdges() {}

  static void addTo(Edges edges) {
    edges.term(STEPS, LetterEdges::zeroToThree);
    edges.term(SENT, LetterEdges::brokenOnThatDay);
    edges.term(SENT, LetterEdges::fourteenDaysAgo);
    edges.term(SENT, LetterEdges::stepBelowThree);
    edges.term(APPEAL, LetterEdges::notAheadOfTheLetter);
    edges.term(APPEAL, LetterEdges::seenUpToTheLetter);
    edges.term(APPEAL, LetterEdges::knownOnTheDayOfAppeal);
    edges.term(APPEAL, LetterEdges::ruleOfThatLetter);
    edges.term(APPEAL, LetterEdges::theOneAheadOfIt);
    edges.term(APPEAL, LetterEdges::impossibleIsNotBroken);
    edges.promise(23, "A LETTER is SENT: STEP.", LetterEdges::sentSteps);
    edges.promise(23, "NONE, if it can't be.", LetterEdges::cantBeSent);
    edges.promise(23, "NONE, if it can't be.", LetterEdges::wrongSends);
    edges.promise(24, "APPEAL: STEP behind it.", LetterEdges::stepBehindIt);
    edges.promise(24, APPEAL_NONE, LetterEdges::noLetter);
    edges.promise(24, APPEAL_NONE, LetterEdges::letterStays);
    edges.promise(24, APPEAL_NONE, LetterEdges::wrongAppeals);
  }

  /** A boat that stays at 0 from day 0 to 4, and a rule by which three days are enough. */
  private static BoatsMoveOn fiveDays() {
    BoatsMoveOn x = Scene.still(2);
    x.seen(0, 0, 0, 0);
    x.seen(0, 0, 4, 4);
    Due.tell(x, "need 0; stay 3;");
    return x;
  }

  private static void step(Due due, BoatsMoveOn x, int step, int day) {
    due.is("its step", x.about(10), step);
    due.is("the day of its latest letter", x.about(20), day);
  }

  private static void zeroToThree(Due due) {
    BoatsMoveOn x = fiveDays();
    step(due, x, 0, -1);
    due.is("no appeal below 0", x.appeal(0, 59), -1);
    step(due, x, 0, -1);
    due.is("one", x.send(0, 0, 4), 1);
    step(due, x, 1, 4);
    due.is("two", x.send(0, 0, 18), 2);
    step(due, x, 2, 18);
    due.is("three", x.send(0, 0, 32), 3);
    step(due, x, 3, 32);
    due.is("not four", x.send(0, 0, 46), -1);
    step(due, x, 3, 32);
    due.is("another boat has its own", x.about(11), 0);
    due.is("another boat has none", x.about(21), -1);
  }

  private static void brokenOnThatDay(Due due) {
    BoatsMoveOn x = fiveDays();
    due.is("five days aren't known on 3", x.send(0, 0, 3), -1);
    step(due, x, 0, -1);
    due.is("they are on 4", x.send(0, 0, 4), 1);
    x.excuse(0, 0, 1, 18);
    due.is("excused: not broken as known on 18", x.send(0, 0, 18), -1);
    step(due, x, 1, 4);
    due.is("but short of 20 without a rule", x.send(0, -1, 18), 2);
    BoatsMoveOn y = Scene.row(2, 4, 4, 1);
    Due.tell(y, "need 1;");
    y.seen(0, 0, 0, 0);
    y.seen(0, 0, 2, 2);
    due.is("perhaps isn't enough", y.send(0, 0, 2), -1);
    due.is("for sure is", y.send(0, 0, 1), 1);
  }

  private static void fourteenDaysAgo(Due due) {
    BoatsMoveOn x = fiveDays();
    due.is("the first", x.send(0, 0, 20), 1);
    for (int day : new int[] {4, 6, 19, 20, 21, 33}) {
      due.is("on " + day, x.send(0, 0, day), -1);
      step(due, x, 1, 20);
    }
    due.is("14 days ago", x.send(0, 0, 34), 2);
    due.is("13 days ago", x.send(0, 0, 47), -1);
    due.is("25 days ago", x.send(0, 0, 59), 3);
    BoatsMoveOn y = fiveDays();
    due.is("the first on the last day", y.send(0, 0, 59), 1);
    due.is("then none ahead of it", y.send(0, 0, 45), -1);
    BoatsMoveOn z = fiveDays();
    z.seen(1, 0, 0, 0);
    due.is("a letter of one", z.send(0, 0, 10), 1);
    due.is("doesn't hinder one of another", z.send(1, -1, 11), 1);
  }

  private static void stepBelowThree(Due due) {
    BoatsMoveOn x = fiveDays();
    x.send(0, 0, 4);
    x.send(0, 0, 18);
    x.send(0, 0, 32);
    due.is("three are all", x.send(0, 0, 59), -1);
    x.excuse(0, 0, 4, 50);
    due.is("one is taken back", x.appeal(0, 50), 2);
    due.is("not broken any more", x.send(0, 0, 59), -1);
    due.is("room for one by another rule", x.send(0, -1, 59), 3);
    due.is("and none more", x.send(0, -1, 59), -1);
    step(due, x, 3, 59);
  }

  private static void notAheadOfTheLetter(Due due) {
    BoatsMoveOn x = fiveDays();
    x.send(0, 0, 20);
    x.excuse(0, 0, 4, 0);
    for (int day : new int[] {0, 4, 19}) {
      due.is("an appeal on " + day, x.appeal(0, day), -1);
      step(due, x, 1, 20);
    }
    due.is("on the letter's day", x.appeal(0, 20), 0);
    step(due, x, 0, -1);
    due.is("not broken, so none is sent", x.send(0, 0, 20), -1);
    due.is("one by another rule", x.send(0, -1, 20), 1);
    x.pace(5);
    x.seen(0, 0, 6, 6);
    due.is("an appeal on the last day", x.appeal(0, 59), 0);
  }

  private static void seenUpToTheLetter(Due due) {
    // By need: 20 miles take four days more.
    BoatsMoveOn x = Scene.row(2, 5, 5, 1);
    x.seen(0, 0, 2, 2);
    due.is("0 miles", x.send(0, -1, 6), 1);
    x.image();
    x.seen(0, 0, 7, 7);
    due.is("seen a day behind the letter", x.broken(0, -1, 7), 0);
    due.is("doesn't count", x.appeal(0, 7), -1);
    due.is("nor later", x.appeal(0, 59), -1);
    x.back();
    x.seen(0, 0, 6, 7);
    due.is("seen on the letter's day, told later", x.appeal(0, 6), -1);
    due.is("counts when it is told", x.appeal(0, 7), 0);
    x.back();
    x.seen(0, 0, 5, 7);
    due.is("15 miles", x.appeal(0, 7), -1);
  }

  private static void knownOnTheDayOfAppeal(Due due) {
    BoatsMoveOn x = fiveDays();
    x.send(0, 0, 10);
    x.excuse(0, 0, 1, 30);
    due.is("not proved on 29", x.appeal(0, 29), -1);
    step(due, x, 1, 10);
    due.is("proved on 30", x.appeal(0, 30), 0);
    BoatsMoveOn y = fiveDays();
    y.send(0, 0, 10);
    y.pace(5);
    due.is("it may have been away", y.appeal(0, 10), 0);
    BoatsMoveOn z = fiveDays();
    z.pace(5);
    z.seen(0, 0, 1, 1);
    z.seen(0, 0, 2, 2);
    z.seen(0, 0, 3, 3);
    due.is("four days for sure", z.send(0, 0, 3), 1);
    due.is("told of more days: five", z.appeal(0, 4), -1);
  }

  private static void ruleOfThatLetter(Due due) {
    BoatsMoveOn x = fiveDays();
    Due.tell(x, "need 1; stay 99;");
    due.is("by stay", x.send(0, 0, 4), 1);
    due.is("by need", x.send(0, 1, 18), 2);
    due.is("without a rule", x.send(0, -1, 32), 3);
    x.excuse(0, 0, 4, 40);
    due.is("an excuse is none for twenty miles", x.appeal(0, 40), -1);
    x.pace(5);
    // 0 to 20 miles: neither rule is broken for sure.
    due.is("moving is", x.appeal(0, 40), 2);
    x.pace(4);
    due.is("an excuse is none for one mile", x.appeal(0, 40), -1);
    x.pace(5);
    due.is("moving is", x.appeal(0, 40), 1);
    x.pace(4);
    due.is("the excuse is one for the first letter", x.appeal(0, 40), 0);
  }

  private static void theOneAheadOfIt(Due due) {
    BoatsMoveOn x = fiveDays();
    x.send(0, 0, 4);
    x.send(0, 0, 18);
    x.send(0, 0, 32);
    x.excuse(0, 0, 4, 40);
    due.is("ahead of the third", x.appeal(0, 31), -1);
    due.is("the third", x.appeal(0, 40), 2);
    step(due, x, 2, 18);
    due.is("the second", x.appeal(0, 40), 1);
    step(due, x, 1, 4);
    // 14 days are counted from the one that is the latest now.
    due.is("17 is 13 days behind it", x.send(0, -1, 17), -1);
    due.is("18 is 14 days behind it", x.send(0, -1, 18), 2);
    step(due, x, 2, 18);
    BoatsMoveOn y = fiveDays();
    y.send(0, 0, 4);
    y.excuse(0, 0, 4, 6);
    due.is("the only one", y.appeal(0, 6), 0);
    step(due, y, 0, -1);
    due.is("then there is none to wait for", y.send(0, 0, 5), 1);
    step(due, y, 1, 5);
  }

  private static void impossibleIsNotBroken(Due due) {
    BoatsMoveOn x = fiveDays();
    due.is("by stay", x.send(0, 0, 4), 1);
    x.seen(0, 1, 2, 6);
    due.is("not known on 5", x.appeal(0, 5), -1);
    due.is("impossible as known on 6", x.known(0, 6, 2), 1);
    due.is("it isn't broken", x.appeal(0, 6), 0);
    step(due, x, 0, -1);
  }

  private static void sentSteps(Due due) {
    BoatsMoveOn x = Scene.still(8);
    x.seen(7, 0, 0, 0);
    due.is("on the first day", x.send(7, -1, 0), 1);
    due.is("about(17)", x.about(17), 1);
    due.is("about(27)", x.about(27), 0);
    due.is("14 days later", x.send(7, -1, 14), 2);
    due.is("on the last day", x.send(7, -1, 59), 3);
    due.is("about(17)", x.about(17), 3);
    due.is("about(27)", x.about(27), 59);
    due.is("about(16)", x.about(16), 0);
  }

  private static void cantBeSent(Due due) {
    BoatsMoveOn x = fiveDays();
    List<Integer> before = Scene.counts(x);
    due.is("not broken", x.send(0, 0, 0), -1);
    due.is("never seen", x.send(1, 0, 10), -1);
    due.is("never seen, without a rule", x.send(1, -1, 10), -1);
    x.image();
    x.seen(0, 1, 2, 9);
    due.is("impossible", x.send(0, 0, 9), -1);
    x.back();
    due.is("refused, nothing changed:", Scene.counts(x), before);
  }

  private static void wrongSends(Due due) {
    BoatsMoveOn x = fiveDays();
    List<Integer> before = Scene.counts(x);
    for (int boat : new int[] {-1, 2, 8, MIN, MAX}) {
      due.is("send(" + boat + ", 0, 10)", x.send(boat, 0, 10), -1);
    }
    for (int rule : new int[] {-2, 1, 4, MIN, MAX}) {
      due.is("send(0, " + rule + ", 10)", x.send(0, rule, 10), -1);
    }
    for (int day : Scene.NO_DAYS) {
      due.is("send(0, 0, " + day + ")", x.send(0, 0, day), -1);
    }
    due.is("refused, nothing changed:", Scene.counts(x), before);
    due.is("a right one", x.send(0, 0, 10), 1);
  }

  private static void stepBehindIt(Due due) {
    BoatsMoveOn x = Scene.still(8);
    Due.tell(x, "need 0; stay 0;");
    x.seen(7, 0, 0, 0);
    x.send(7, 0, 0);
    x.send(7, 0, 14);
    x.send(7, 0, 28);
    x.excuse(7, 0, 0, 28);
    due.is("two", x.appeal(7, 28), 2);
    due.is("one", x.appeal(7, 28), 1);
    due.is("none", x.appeal(7, 28), 0);
    due.is("about(17)", x.about(17), 0);
    due.is("about(27)", x.about(27), -1);
  }

  private static void noLetter(Due due) {
    BoatsMoveOn x = fiveDays();
    List<Integer> before = Scene.counts(x);
    due.is("no letter yet", x.appeal(0, 59), -1);
    due.is("never seen", x.appeal(1, 59), -1);
    due.is("refused, nothing changed:", Scene.counts(x), before);
    x.send(0, 0, 4);
    due.is("of another boat", x.appeal(1, 59), -1);
    x.excuse(0, 0, 4, 4);
    due.is("taken back", x.appeal(0, 4), 0);
    due.is("no letter any more", x.appeal(0, 4), -1);
    due.is("about(10)", x.about(10), 0);
  }

  private static void letterStays(Due due) {
    BoatsMoveOn x = fiveDays();
    x.send(0, 0, 4);
    x.send(0, 0, 18);
    List<Integer> before = Scene.counts(x);
    due.is("still broken", x.appeal(0, 18), -1);
    due.is("still broken on the last day", x.appeal(0, 59), -1);
    due.is("ahead of the latest, not of the first", x.appeal(0, 17), -1);
    due.is("refused, nothing changed:", Scene.counts(x), before);
  }

  private static void wrongAppeals(Due due) {
    BoatsMoveOn x = fiveDays();
    x.send(0, 0, 4);
    x.excuse(0, 0, 4, 0);
    List<Integer> before = Scene.counts(x);
    for (int boat : new int[] {-1, 2, 8, MIN, MAX}) {
      due.is("appeal(" + boat + ", 10)", x.appeal(boat, 10), -1);
    }
    for (int day : Scene.NO_DAYS) {
      due.is("appeal(0, " + day + ")", x.appeal(0, day), -1);
    }
    due.is("refused, nothing changed:", Scene.counts(x), before);
    due.is("a right one", x.appeal(0, 10), 0);
  }
}
