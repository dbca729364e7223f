/** Promises 15 to 22: where a boat may be, how long it stays, how far it goes, where to look. */
public final class JourneyTest {
  private static final int MIN = Integer.MIN_VALUE;
  private static final int MAX = Integer.MAX_VALUE;

  public static void main(String[] args) {
    Due due = new Due("JourneyTest");
    mays(due);
    seenTwiceOnADay(due);
    shutBetween(due);
    knowns(due);
    overs(due);
    excusedByRule(due);
    longests(due);
    stayLimits(due);
    fars(due);
    shorts(due);
    brokens(due);
    looks(due);
    wrongOnes(due);
    wholeSixtyDays(due);
    due.close();
  }

  /** Places 0 - 1 - 2 in a row, four miles from each to the next, and 3 without a way. */
  private static BoatsMoveOn row(int pace) {
    BoatsMoveOn x = new BoatsMoveOn();
    x.place(1);
    x.place(1);
    x.place(2);
    x.place(2);
    x.way(0, 1, 4);
    x.way(1, 2, 4);
    x.pace(pace);
    x.boat();
    return x;
  }

  private static void mays(Due due) {
    BoatsMoveOn x = row(4);
    x.seen(0, 0, 10, 10);
    x.seen(0, 0, 14, 14);
    int[] want = {0, 1, 3, 7, 3, 1, 0};
    for (int day = 9; day <= 15; day++) {
      due.is("may on " + day, x.may(0, day, 14), want[day - 9]);
    }
    due.is("may on 10 as known on 10", x.may(0, 10, 10), 1);
    due.is("may on 11 as known on 10", x.may(0, 11, 10), 0);
    due.is("may on 10 as known on 9", x.may(0, 10, 9), 0);
    x.pace(3);
    due.is("too slow to leave", x.may(0, 12, 14), 1);
    x.pace(8);
    due.is("two ways a day", x.may(0, 11, 14), 7);
    x.seen(0, 3, 20, 20);
    due.is("never there", x.may(0, 10, 20), 0);
    due.is("but as known on 19", x.may(0, 10, 19), 1);
  }

  private static void seenTwiceOnADay(Due due) {
    BoatsMoveOn x = row(60);
    x.seen(0, 1, 5, 5);
    x.seen(0, 1, 5, 6);
    due.is("twice at one place", x.known(0, 6, 2), 0);
    due.is("may(0, 5, 6)", x.may(0, 5, 6), 2);
    x.seen(0, 2, 5, 7);
    due.is("at two places on a day", x.known(0, 7, 2), 1);
    due.is("may(0, 5, 7)", x.may(0, 5, 7), 0);
    due.is("known(0, 7, 3)", x.known(0, 7, 3), -1);
    due.is("known(0, 7, 0)", x.known(0, 7, 0), 5);
    due.is("known(0, 7, 1)", x.known(0, 7, 1), 5);
    due.is("as known on 6", x.known(0, 6, 2), 0);
  }

  private static void shutBetween(Due due) {
    BoatsMoveOn x = row(4);
    x.seen(0, 0, 0, 0);
    x.seen(0, 1, 1, 1);
    x.shut(0, 0, 0);
    due.is("a move is by the later day's ways", x.known(0, 1, 2), 0);
    x.shut(0, 1, 1);
    due.is("shut on the later day", x.known(0, 1, 2), 1);
  }

  private static void knowns(Due due) {
    BoatsMoveOn x = row(4);
    due.is("never seen", x.known(0, 59, 0), -1);
    due.is("never seen", x.known(0, 59, 1), -1);
    due.is("never seen", x.known(0, 59, 2), -1);
    due.is("never seen", x.known(0, 59, 3), -1);
    x.seen(0, 0, 10, 12);
    due.is("told later", x.known(0, 11, 0), -1);
    due.is("one day", x.known(0, 12, 0), 10);
    due.is("one day", x.known(0, 12, 1), 10);
    due.is("one day", x.known(0, 12, 2), 0);
    due.is("one day", x.known(0, 12, 3), 0);
    x.seen(0, 0, 14, 14);
    due.is("doubt", x.known(0, 14, 3), 1 + 2 + 1);
    due.is("known(0, 14, 4)", x.known(0, 14, 4), -1);
    due.is("known(0, 14, -1)", x.known(0, 14, -1), -1);
    due.is("known(0, 60, 0)", x.known(0, 60, 0), -1);
    due.is("known(0, -1, 0)", x.known(0, -1, 0), -1);
    due.is("known(1, 14, 0)", x.known(1, 14, 0), -1);
    due.is("known(-1, 14, 0)", x.known(-1, 14, 0), -1);
  }

  private static void overs(Due due) {
    BoatsMoveOn x = row(4);
    due.is("never seen", x.over(0, 0, -1, 30), -1);
    x.seen(0, 0, 0, 0);
    x.seen(0, 0, 13, 13);
    due.is("fourteen days at most", x.over(0, 0, -1, 13), 0);
    x.seen(0, 0, 14, 14);
    due.is("fifteen perhaps", x.over(0, 0, -1, 14), 1);
    due.is("not at 1", x.over(0, 1, -1, 14), 0);
    due.is("not at 3", x.over(0, 3, -1, 14), 0);
    for (int day = 1; day < 13; day += 2) {
      x.seen(0, 0, day, 20);
    }
    due.is("as known on 19", x.over(0, 0, -1, 19), 1);
    due.is("it may still be off for a day", x.over(0, 0, -1, 20), 1);
    x.pace(3);
    due.is("it can't", x.over(0, 0, -1, 19), 2);
    x.excuse(0, 4, 4, 25);
    due.is("not proved", x.over(0, 0, -1, 24), 2);
    due.is("proved", x.over(0, 0, -1, 25), 0);
    x.seen(0, 3, 30, 30);
    due.is("impossible", x.over(0, 0, -1, 30), -1);
    BoatsMoveOn y = row(4);
    y.seen(0, 0, 0, 0);
    y.seen(0, 2, 20, 20);
    Due.tell(y, "near parish = theirs; stay 5;");
    due.is("round 0 perhaps", y.over(0, 0, 0, 20), 1);
    due.is("round 2 perhaps", y.over(0, 2, 0, 20), 1);
    Due.tell(y, "near miles < 9999; stay 20;");
    due.is("round 0 for sure", y.over(0, 0, 1, 20), 2);
    due.is("round 3 not", y.over(0, 3, 1, 20), 0);
  }

  private static void excusedByRule(Due due) {
    BoatsMoveOn x = row(4);
    x.pace(3);
    x.seen(0, 1, 10, 10);
    x.seen(0, 1, 29, 29);
    Due.tell(x, "excuse day >= 15 and day < 20;");
    due.is("five days", x.longest(0, 1, 0, 29, 1), 15);
    Due.tell(x, "excuse here = 2 or parish = 2;");
    due.is("elsewhere", x.longest(0, 1, 1, 29, 1), 20);
    Due.tell(x, "excuse here = 1;");
    due.is("all", x.longest(0, 1, 2, 29, 0), 0);
    due.is("all", x.longest(0, 1, 2, 29, 1), 0);
    due.is("over", x.over(0, 1, 2, 29), 0);
    x.excuse(0, 18, 22, 0);
    due.is("either is enough", x.longest(0, 1, 0, 29, 1), 12);
    // here is where it is then, not the place that is asked for.
    BoatsMoveOn y = row(4);
    y.seen(0, 0, 0, 0);
    y.seen(0, 1, 1, 1);
    Due.tell(y, "near miles < 9999; excuse here = 1;");
    due.is("a day at 1 is excused", y.longest(0, 0, 0, 1, 1), 1);
    due.is("round 1 likewise", y.longest(0, 1, 0, 1, 0), 1);
    due.is("round 2 likewise", y.longest(0, 2, 0, 1, 0), 1);
  }

  private static void longests(Due due) {
    BoatsMoveOn x = row(4);
    due.is("never seen", x.longest(0, 0, -1, 5, 0), -1);
    x.seen(0, 0, 0, 0);
    x.seen(0, 2, 5, 5);
    // 0 ? ? ? ? 2: two of the four days are for the two moves at least.
    due.is("round 0 at least", x.longest(0, 0, -1, 5, 0), 1);
    due.is("round 0 at most", x.longest(0, 0, -1, 5, 1), 4);
    due.is("round 1 at least", x.longest(0, 1, -1, 5, 0), 1);
    due.is("round 1 at most", x.longest(0, 1, -1, 5, 1), 4);
    due.is("round 3", x.longest(0, 3, -1, 5, 0), 0);
    due.is("round 3", x.longest(0, 3, -1, 5, 1), 0);
    due.is("what 2", x.longest(0, 0, -1, 5, 2), -1);
    due.is("what -1", x.longest(0, 0, -1, 5, -1), -1);
    Due.tell(x, "near miles <= 4;");
    due.is("round 0 and 1 at least", x.longest(0, 0, 0, 5, 0), 2);
    due.is("round 0 and 1 at most", x.longest(0, 0, 0, 5, 1), 5);
    due.is("round all three", x.longest(0, 1, 0, 5, 0), 6);
    // The least is of one journey: two stays can't both be short.
    BoatsMoveOn y = row(4);
    y.seen(0, 0, 0, 0);
    y.seen(0, 0, 3, 3);
    y.seen(0, 0, 9, 9);
    due.is("round 0 at least", y.longest(0, 0, -1, 9, 0), 1);
    y.seen(0, 0, 1, 10);
    due.is("two at once", y.longest(0, 0, -1, 10, 0), 2);
    y.seen(0, 0, 2, 11);
    due.is("four at once", y.longest(0, 0, -1, 11, 0), 4);
    due.is("ten at most", y.longest(0, 0, -1, 11, 1), 10);
    // An excused day within a stay doesn't end it.
    y.excuse(0, 1, 2, 0);
    due.is("four less two", y.longest(0, 0, -1, 11, 0), 2);
    due.is("ten less two", y.longest(0, 0, -1, 11, 1), 8);
  }

  private static void stayLimits(Due due) {
    BoatsMoveOn x = row(3);
    x.seen(0, 1, 0, 0);
    x.seen(0, 1, 5, 5);
    Due.tell(x, "stay 5;");
    due.is("six are more than five", x.over(0, 1, 0, 5), 2);
    Due.tell(x, "stay 6;");
    due.is("six aren't more than six", x.over(0, 1, 1, 5), 0);
    Due.tell(x, "stay 0 - 4;");
    due.is("0 at least", x.over(0, 1, 2, 5), 2);
    due.is("none is not more than 0", x.over(0, 0, 2, 5), 0);
    Due.tell(x, "stay 3 + here * 2 + parish;");
    due.is("here and parish are those asked for", x.over(0, 1, 3, 5), 0);
    BoatsMoveOn y = row(3);
    y.seen(0, 1, 0, 0);
    y.seen(0, 1, 59, 59);
    Due.tell(y, "stay 9999;");
    due.is("sixty aren't more than 99", y.over(0, 1, 0, 59), 0);
    due.is("sixty", y.longest(0, 1, 0, 59, 0), 60);
    Due.tell(y, "stay 59;");
    due.is("sixty are more than 59", y.over(0, 1, 1, 59), 2);
  }

  private static void fars(Due due) {
    BoatsMoveOn x = row(4);
    due.is("never seen", x.far(0, 5, 0), -1);
    x.seen(0, 0, 0, 0);
    due.is("one day", x.far(0, 5, 0), 0);
    due.is("one day", x.far(0, 5, 1), 0);
    x.seen(0, 2, 5, 5);
    due.is("the least", x.far(0, 5, 0), 8);
    due.is("the most: four moves of five", x.far(0, 5, 1), 16);
    due.is("what 2", x.far(0, 5, 2), -1);
    due.is("what -1", x.far(0, 5, -1), -1);
    x.pace(8);
    due.is("the most: back and forth over both", x.far(0, 5, 1), 40);
    x.way(0, 2, 5);
    due.is("a shorter way", x.far(0, 5, 0), 5);
    x.shut(2, 2, 5);
    due.is("open on day 1", x.far(0, 5, 0), 5);
    x.shut(2, 1, 1);
    due.is("shut from day 1 on", x.far(0, 5, 0), 8);
    x.shut(0, 1, 5);
    due.is("impossible", x.far(0, 5, 0), -1);
    due.is("impossible", x.far(0, 5, 1), -1);
  }

  private static void shorts(Due due) {
    BoatsMoveOn x = row(4);
    due.is("never seen", x.shortOf(0, -1, 5), -1);
    x.seen(0, 0, 0, 0);
    x.seen(0, 2, 5, 5);
    due.is("16 are less than 20", x.shortOf(0, -1, 5), 2);
    Due.tell(x, "need 16;");
    due.is("16 perhaps", x.shortOf(0, 0, 5), 1);
    Due.tell(x, "need 9;");
    due.is("8 are less than 9", x.shortOf(0, 1, 5), 1);
    Due.tell(x, "need 8;");
    due.is("8 aren't less than 8", x.shortOf(0, 2, 5), 0);
    Due.tell(x, "need days * 3 - 1;");
    due.is("six days: 17", x.shortOf(0, 3, 5), 2);
    due.is("one day: 2", x.shortOf(0, 3, 0), 2);
    x.seen(0, 2, 7, 7);
    due.is("eight days: 23 of 8 to 24", x.shortOf(0, 3, 7), 1);
    x.seen(0, 3, 9, 9);
    due.is("impossible", x.shortOf(0, 3, 9), -1);
    BoatsMoveOn y = row(4);
    y.seen(0, 0, 0, 0);
    Due.tell(y, "need 0 - 5;");
    due.is("0 at least", y.shortOf(0, 0, 0), 0);
    Due.tell(y, "stay 1;");
    due.is("without need 20", y.shortOf(0, 1, 0), 2);
    BoatsMoveOn z = new BoatsMoveOn();
    z.place(0);
    z.place(0);
    z.way(0, 1, 30);
    z.pace(60);
    z.boat();
    z.seen(0, 0, 0, 0);
    z.seen(0, 1, 59, 59);
    due.is("the most of all", z.far(0, 59, 1), 59 * 30);
    Due.tell(z, "need 30 * 59;");
    due.is("not less", z.shortOf(0, 0, 59), 1);
    Due.tell(z, "need 30 * 59 + 1;");
    due.is("less", z.shortOf(0, 1, 59), 2);
  }

  private static void brokens(Due due) {
    BoatsMoveOn x = row(4);
    due.is("never seen", x.broken(0, -1, 5), -1);
    x.seen(0, 0, 0, 0);
    due.is("short for sure", x.broken(0, -1, 5), 1);
    Due.tell(x, "need 0;");
    due.is("neither", x.broken(0, 0, 5), 0);
    Due.tell(x, "need 0; stay 0;");
    due.is("over for sure", x.broken(0, 1, 5), 1);
    x.seen(0, 0, 4, 4);
    Due.tell(x, "need 16; stay 2;");
    due.is("perhaps isn't broken", x.broken(0, 2, 4), 0);
    Due.tell(x, "need 0; near 1 = 1; stay 4 + (3 - here);");
    due.is("over round 3 alone", x.broken(0, 3, 4), 1);
    due.is("over round 2 not", x.over(0, 2, 3, 4), 0);
    due.is("over round 3", x.over(0, 3, 3, 4), 2);
    x.seen(0, 3, 8, 8);
    due.is("impossible", x.broken(0, 0, 8), -1);
    due.is("a rule that isn't", x.broken(0, 4, 4), -1);
    due.is("a rule that isn't", x.broken(0, -2, 4), -1);
    BoatsMoveOn y = row(4);
    Due.tell(y, "need 0; stay 3;");
    y.seen(0, 0, 0, 0);
    y.seen(0, 0, 1, 1);
    y.seen(0, 0, 2, 2);
    y.seen(0, 0, 3, 3);
    due.is("four days", y.broken(0, 0, 3), 1);
    due.is("three days", y.broken(0, 0, 2), 0);
    y.excuse(0, 1, 1, 9);
    due.is("ahead of the proof", y.broken(0, 0, 8), 1);
    due.is("behind the proof", y.broken(0, 0, 9), 0);
  }

  private static void looks(Due due) {
    BoatsMoveOn x = row(4);
    due.is("never seen", x.look(0, 0, 9, 0), -1);
    x.seen(0, 0, 0, 0);
    x.seen(0, 0, 4, 4);
    // Days 1 to 3 may be {0,1}, {0,1,2}, {0,1}: doubt 4.
    // On day 2: at 0 leaves {0,1}, {0}, {0,1}: 2; not at 0 leaves {0,1}, {1,2}, {0,1}: 3.
    // At 1 leaves 2; not at 1 leaves {0,1}, {0,2}, {0,1}: 3. At 2 leaves 0; not at 2 leaves 3.
    due.is("of like ones the lowest", x.look(0, 2, 4, 0), 0);
    due.is("the greater doubt", x.look(0, 2, 4, 1), 3);
    // On day 1: at 0 leaves {0}, {0,1}, {0,1}: 2; not there leaves {1}, {0,1,2}, {0,1}: 3.
    due.is("day 1", x.look(0, 1, 4, 0), 0);
    due.is("day 1", x.look(0, 1, 4, 1), 3);
    // Where it was seen, looking tells nothing.
    due.is("day 0", x.look(0, 0, 4, 0), 0);
    due.is("day 0", x.look(0, 0, 4, 1), 4);
    due.is("day 4", x.look(0, 4, 4, 1), 4);
    due.is("no day of it", x.look(0, 5, 4, 0), -1);
    due.is("as known on 3", x.look(0, 2, 3, 0), -1);
    due.is("as known on 3", x.look(0, 0, 3, 1), 0);
    due.is("what 2", x.look(0, 2, 4, 2), -1);
    due.is("what -1", x.look(0, 2, 4, -1), -1);
    // Asking leaves all as it was.
    due.is("doubt", x.known(0, 4, 3), 4);
    x.seen(0, 3, 9, 9);
    due.is("impossible", x.look(0, 2, 9, 0), -1);
    // A star: by day 1 any of 0, 1, 2; 2 leads nowhere else, so looking there says most.
    BoatsMoveOn y = row(4);
    y.seen(0, 0, 0, 0);
    y.seen(0, 2, 3, 3);
    // {0}, {0,1}, {1,2}, {2}: at 0 on 1 leaves 0; at 1 on 1 leaves {1}, {1,2}: 1.
    due.is("row: doubt", y.known(0, 3, 3), 2);
    due.is("row: day 1", y.look(0, 1, 3, 0), 0);
    due.is("row: day 1", y.look(0, 1, 3, 1), 1);
    due.is("row: day 2", y.look(0, 2, 3, 0), 1);
    due.is("row: day 2", y.look(0, 2, 3, 1), 1);
  }

  private static void wrongOnes(Due due) {
    BoatsMoveOn x = row(4);
    x.seen(0, 0, 0, 0);
    int[] wrong = {-1, 60, MIN, MAX};
    for (int w : wrong) {
      due.is("may day " + w, x.may(0, w, 0), -1);
      due.is("may k " + w, x.may(0, 0, w), -1);
      due.is("may boat " + w, x.may(w, 0, 0), -1);
      due.is("over boat " + w, x.over(w, 0, -1, 0), -1);
      due.is("over place " + w, x.over(0, w, -1, 0), -1);
      due.is("over k " + w, x.over(0, 0, -1, w), -1);
      due.is("longest boat " + w, x.longest(w, 0, -1, 0, 0), -1);
      due.is("longest place " + w, x.longest(0, w, -1, 0, 0), -1);
      due.is("longest k " + w, x.longest(0, 0, -1, w, 0), -1);
      due.is("longest what " + w, x.longest(0, 0, -1, 0, w), -1);
      due.is("far boat " + w, x.far(w, 0, 0), -1);
      due.is("far k " + w, x.far(0, w, 0), -1);
      due.is("shortOf boat " + w, x.shortOf(w, -1, 0), -1);
      due.is("shortOf k " + w, x.shortOf(0, -1, w), -1);
      due.is("broken boat " + w, x.broken(w, -1, 0), -1);
      due.is("broken k " + w, x.broken(0, -1, w), -1);
      due.is("look boat " + w, x.look(w, 0, 0, 0), -1);
      due.is("look day " + w, x.look(0, w, 0, 0), -1);
      due.is("look k " + w, x.look(0, 0, w, 0), -1);
    }
    int[] rules = {-2, 0, 4, MIN, MAX};
    for (int rule : rules) {
      due.is("over rule " + rule, x.over(0, 0, rule, 0), -1);
      due.is("longest rule " + rule, x.longest(0, 0, rule, 0, 0), -1);
      due.is("shortOf rule " + rule, x.shortOf(0, rule, 0), -1);
      due.is("broken rule " + rule, x.broken(0, rule, 0), -1);
    }
    due.is("place 4", x.over(0, 4, -1, 0), -1);
    due.is("boat 1", x.may(1, 0, 0), -1);
    due.is("right ones", x.over(0, 3, -1, 0), 0);
  }

  private static void wholeSixtyDays(Due due) {
    BoatsMoveOn x = new BoatsMoveOn();
    for (int i = 0; i < 10; i++) {
      x.place(i);
      x.way(i - 1, i, 1);
    }
    x.boat();
    x.seen(0, 0, 0, 0);
    x.seen(0, 9, 59, 59);
    x.pace(60);
    due.is("doubt", x.known(0, 59, 3), 58 * 9);
    due.is("the most miles", x.far(0, 59, 1), 59 * 9);
    due.is("the least miles", x.far(0, 59, 0), 9);
    due.is("longest at most", x.longest(0, 0, -1, 59, 1), 59);
    due.is("longest at least", x.longest(0, 0, -1, 59, 0), 1);
    due.is("look", x.look(0, 30, 59, 1), 58 * 9 - 1);
    due.is("look", x.look(0, 30, 59, 0), 0);
    x.pace(1);
    due.is("may", x.may(0, 5, 59), 63);
    due.is("may", x.may(0, 55, 59), 0x3e0);
  }
}
