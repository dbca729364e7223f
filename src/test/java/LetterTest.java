/** Promises 23 and 24: letters that are sent in steps, and appeals by what is known later. */
public final class LetterTest {
  public static void main(String[] args) {
    Due due = new Due("LetterTest");
    sending(due);
    stepsAndDays(due);
    perBoat(due);
    appealing(due);
    appealTakesOneAtATime(due);
    onlySeenUpToTheLetter(due);
    ruleOfTheLetter(due);
    appealOfTheImpossible(due);
    wrongOnes(due);
    due.close();
  }

  /** Two places five miles apart, a pace of four: whoever is seen stays where it is. */
  private static BoatsMoveOn still() {
    BoatsMoveOn x = new BoatsMoveOn();
    x.place(0);
    x.place(0);
    x.way(0, 1, 5);
    x.pace(4);
    x.boat();
    x.boat();
    return x;
  }

  private static void sending(Due due) {
    BoatsMoveOn x = still();
    due.is("never seen", x.send(0, -1, 0), -1);
    x.seen(0, 0, 5, 7);
    due.is("not known yet", x.send(0, -1, 6), -1);
    due.is("about(10)", x.about(10), 0);
    due.is("about(20)", x.about(20), -1);
    Due.tell(x, "need 0;");
    due.is("not broken", x.send(0, 0, 7), -1);
    due.is("broken", x.send(0, -1, 7), 1);
    due.is("about(10)", x.about(10), 1);
    due.is("about(20)", x.about(20), 7);
    BoatsMoveOn y = still();
    y.seen(0, 0, 0, 0);
    y.seen(0, 1, 1, 1);
    due.is("impossible", y.send(0, -1, 1), -1);
    due.is("as known on 0", y.send(0, -1, 0), 1);
  }

  private static void stepsAndDays(Due due) {
    BoatsMoveOn x = still();
    x.seen(0, 0, 0, 0);
    due.is("first", x.send(0, -1, 10), 1);
    due.is("ahead of it", x.send(0, -1, 9), -1);
    due.is("the same day", x.send(0, -1, 10), -1);
    due.is("13 days", x.send(0, -1, 23), -1);
    due.is("about(20)", x.about(20), 10);
    due.is("14 days", x.send(0, -1, 24), 2);
    due.is("13 days", x.send(0, -1, 37), -1);
    due.is("16 days", x.send(0, -1, 40), 3);
    due.is("about(20)", x.about(20), 40);
    due.is("no fourth", x.send(0, -1, 59), -1);
    due.is("about(10)", x.about(10), 3);
    due.is("about(20)", x.about(20), 40);
  }

  private static void perBoat(Due due) {
    BoatsMoveOn x = still();
    x.seen(0, 0, 0, 0);
    x.seen(1, 0, 0, 0);
    due.is("boat 1", x.send(1, -1, 5), 1);
    due.is("boat 0", x.send(0, -1, 6), 1);
    due.is("boat 1", x.send(1, -1, 19), 2);
    due.is("about(10)", x.about(10), 1);
    due.is("about(11)", x.about(11), 2);
    due.is("about(20)", x.about(20), 6);
    due.is("about(21)", x.about(21), 19);
  }

  private static void appealing(Due due) {
    BoatsMoveOn x = still();
    Due.tell(x, "need 0; stay 3;");
    x.seen(0, 0, 0, 0);
    x.seen(0, 0, 4, 4);
    due.is("no letter", x.appeal(0, 5), -1);
    due.is("five days", x.send(0, 0, 10), 1);
    due.is("still so", x.appeal(0, 10), -1);
    x.excuse(0, 1, 1, 12);
    x.excuse(0, 2, 2, 14);
    due.is("one isn't enough: four", x.appeal(0, 9), -1);
    due.is("ahead of the letter", x.appeal(0, 9), -1);
    due.is("four", x.appeal(0, 13), -1);
    due.is("about(10)", x.about(10), 1);
    due.is("three", x.appeal(0, 14), 0);
    due.is("about(10)", x.about(10), 0);
    due.is("about(20)", x.about(20), -1);
    due.is("no letter any more", x.appeal(0, 14), -1);
    due.is("broken as known on 11", x.send(0, 0, 11), 1);
    due.is("not broken as known on 25", x.send(0, 0, 25), -1);
    due.is("an appeal on the last day", x.appeal(0, 59), 0);
  }

  private static void appealTakesOneAtATime(Due due) {
    BoatsMoveOn x = still();
    Due.tell(x, "need 0; stay 3;");
    x.seen(0, 0, 0, 0);
    x.seen(0, 0, 4, 4);
    x.send(0, 0, 4);
    x.send(0, 0, 18);
    x.send(0, 0, 33);
    x.excuse(0, 0, 10, 40);
    due.is("the third is as it was", x.appeal(0, 39), -1);
    due.is("ahead of the third", x.appeal(0, 32), -1);
    due.is("the third falls", x.appeal(0, 40), 2);
    due.is("about(20)", x.about(20), 18);
    due.is("the second falls", x.appeal(0, 41), 1);
    due.is("about(20)", x.about(20), 4);
    due.is("now 13 days are too few", x.send(0, 0, 17), -1);
    due.is("now 14 days are enough", x.send(0, 0, 18), 2);
    due.is("about(20)", x.about(20), 18);
  }

  private static void onlySeenUpToTheLetter(Due due) {
    BoatsMoveOn x = still();
    Due.tell(x, "need 30;");
    x.pace(5);
    x.seen(0, 0, 0, 0);
    x.seen(0, 0, 4, 4);
    due.is("20 miles at most", x.send(0, 0, 4), 1);
    x.seen(0, 0, 20, 20);
    due.is("now it is far enough", x.broken(0, 0, 20), 0);
    due.is("but not up to the letter", x.appeal(0, 20), -1);
    due.is("about(10)", x.about(10), 1);
    // A sighting told later, of a day ahead of the letter, does count.
    BoatsMoveOn y = still();
    y.pace(5);
    Due.tell(y, "need 0; stay 3;");
    y.seen(0, 0, 10, 10);
    y.seen(0, 0, 11, 11);
    y.seen(0, 0, 12, 12);
    y.seen(0, 0, 13, 13);
    due.is("four days", y.send(0, 0, 13), 1);
    Due.tell(y, "need 31;");
    due.is("told late", y.seen(0, 1, 9, 15), 5);
    due.is("still four days", y.appeal(0, 15), -1);
    BoatsMoveOn z = still();
    z.pace(5);
    Due.tell(z, "need 20;");
    z.seen(0, 0, 4, 4);
    z.seen(0, 0, 6, 6);
    due.is("10 miles", z.send(0, 0, 6), 1);
    z.seen(0, 0, 2, 8);
    due.is("not told yet", z.appeal(0, 7), -1);
    due.is("20 miles", z.appeal(0, 8), 0);
    // One on the letter's own day counts as well.
    BoatsMoveOn w = still();
    w.pace(5);
    Due.tell(w, "need 20;");
    w.seen(0, 0, 2, 2);
    due.is("0 miles", w.send(0, 0, 6), 1);
    w.seen(0, 0, 6, 7);
    due.is("20 miles", w.appeal(0, 7), 0);
  }

  private static void ruleOfTheLetter(Due due) {
    BoatsMoveOn x = still();
    Due.tell(x, "need 0; stay 3;");
    Due.tell(x, "need 1;");
    x.seen(0, 0, 0, 0);
    x.seen(0, 0, 4, 4);
    due.is("by stay", x.send(0, 0, 4), 1);
    due.is("by need", x.send(0, 1, 20), 2);
    x.excuse(0, 0, 4, 30);
    due.is("the excuse doesn't help the latest", x.appeal(0, 30), -1);
    x.pace(5);
    due.is("the pace does", x.appeal(0, 30), 1);
    due.is("and then the one ahead of it", x.appeal(0, 30), 0);
    BoatsMoveOn y = still();
    y.seen(0, 0, 0, 0);
    due.is("without a rule", y.send(0, -1, 0), 1);
    due.is("still short of 20", y.appeal(0, 0), -1);
  }

  private static void appealOfTheImpossible(Due due) {
    BoatsMoveOn x = still();
    x.seen(0, 0, 0, 0);
    x.seen(0, 0, 4, 4);
    due.is("short", x.send(0, -1, 4), 1);
    x.seen(0, 1, 2, 6);
    due.is("impossible", x.broken(0, -1, 6), -1);
    due.is("not known yet", x.appeal(0, 5), -1);
    due.is("what is impossible isn't broken", x.appeal(0, 6), 0);
  }

  private static void wrongOnes(Due due) {
    BoatsMoveOn x = still();
    x.seen(0, 0, 0, 0);
    x.send(0, -1, 0);
    int[] wrong = {-1, 2, 60, Integer.MIN_VALUE, Integer.MAX_VALUE};
    for (int w : wrong) {
      due.is("send boat " + w, x.send(w, -1, 20), -1);
      due.is("appeal boat " + w, x.appeal(w, 20), -1);
    }
    for (int w : new int[] {-1, 60, Integer.MIN_VALUE, Integer.MAX_VALUE}) {
      due.is("send day " + w, x.send(0, -1, w), -1);
      due.is("appeal day " + w, x.appeal(0, w), -1);
    }
    for (int w : new int[] {-2, 0, 4, Integer.MIN_VALUE, Integer.MAX_VALUE}) {
      due.is("send rule " + w, x.send(0, w, 20), -1);
    }
    due.is("about(10)", x.about(10), 1);
    due.is("a boat without letters", x.appeal(1, 20), -1);
  }
}
