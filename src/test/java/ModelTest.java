import java.util.Random;

/** Runs of random calls, each answered by the class and by the model: the answers must be alike. */
public final class ModelTest {
  private static final int RUNS = 4000;
  private static final int CALLS = 220;

  private final Due due;
  private final Random random;
  private final BoatsMoveOn x = new BoatsMoveOn();
  private final Model m = new Model();
  private final int firstDay;
  private final int days;
  private final int mostPlaces;
  private final int mostBoats;
  // Where each boat is on each day, so that what is seen mostly fits together.
  private final int[][] paths = new int[3][60];

  private ModelTest(Due due, int seed) {
    this.due = due;
    this.random = new Random(seed);
    boolean dense = seed % 4 == 0;
    this.days = dense ? 16 + random.nextInt(9) : 2 + random.nextInt(6);
    this.firstDay = random.nextInt(61 - days);
    // Every journey is written out, so there must not be too many of them.
    this.mostPlaces = days > 6 ? 2 : 2 + random.nextInt(3);
    this.mostBoats = dense ? 2 : 3;
    for (int[] path : paths) {
      path[0] = random.nextInt(mostPlaces);
      for (int day = 1; day < 60; day++) {
        path[day] = random.nextInt(4) == 0 ? random.nextInt(mostPlaces) : path[day - 1];
      }
    }
    if (dense) {
      tellManyDays();
    } else if (random.nextInt(5) != 0) {
      tellARow();
    }
  }

  public static void main(String[] args) {
    Due due = new Due("ModelTest");
    for (int seed = 0; seed < RUNS && due.wrong() == 0; seed++) {
      new ModelTest(due, seed).run(seed);
    }
    due.close();
  }

  private void run(int seed) {
    for (int i = 0; i < CALLS && due.wrong() == 0; i++) {
      if (i < 40 || random.nextInt(4) == 0) {
        tell("run " + seed + " call " + i + " ");
      } else {
        ask("run " + seed + " call " + i + " ");
      }
    }
  }

  private void tellARow() {
    for (int i = 0; i < mostPlaces; i++) {
      int parish = random.nextInt(3);
      int miles = 1 + random.nextInt(9);
      due.is("place", x.place(parish), m.place(parish));
      due.is("way", x.way(i - 1, i, miles), m.way(i - 1, i, miles));
    }
    for (int i = 0; i < mostBoats; i++) {
      due.is("boat", x.boat(), m.boat());
    }
    due.is("image", x.image(), m.image());
  }

  /** Two boats that were seen on most of many days, mostly where they were the day ahead. */
  private void tellManyDays() {
    for (int i = 0; i < 2; i++) {
      due.is("place", x.place(i), m.place(i));
      due.is("boat", x.boat(), m.boat());
    }
    due.is("way", x.way(0, 1, 6), m.way(0, 1, 6));
    for (int boat = 0; boat < 2; boat++) {
      for (int day = firstDay; day < firstDay + days; day++) {
        int at = paths[boat][day];
        if (random.nextInt(5) != 0) {
          due.is("seen", x.seen(boat, at, day, day), m.seen(boat, at, day, day));
        }
      }
    }
    due.is("image", x.image(), m.image());
  }

  /** Mostly a day that is used, at times another or none. */
  private int day() {
    int pick = random.nextInt(25);
    if (pick == 0) {
      return random.nextInt(64) - 2;
    }
    return firstDay + random.nextInt(days);
  }

  /** Mostly a day on which much is known. */
  private int k() {
    return random.nextInt(3) == 0 ? day() : Math.min(59, firstDay + days - 1 + random.nextInt(10));
  }

  private int boat() {
    return random.nextInt(20) == 0 ? random.nextInt(12) - 2 : random.nextInt(mostBoats);
  }

  private int place() {
    return random.nextInt(20) == 0 ? random.nextInt(14) - 2 : random.nextInt(mostPlaces);
  }

  private int rule() {
    int told = m.about(7);
    return random.nextInt(8) == 0 || told == 0 ? random.nextInt(7) - 2 : random.nextInt(told);
  }

  private int bit() {
    return random.nextInt(20) == 0 ? random.nextInt(6) - 2 : random.nextInt(2);
  }

  private void tell(String at) {
    int a = place();
    int b = place();
    int d = day();
    int to = Math.min(59, d + random.nextInt(4));
    switch (random.nextInt(18)) {
      case 0, 1 -> {
        if (m.places() < mostPlaces) {
          int parish = random.nextInt(4) - random.nextInt(2);
          due.is(at + "place " + parish, x.place(parish), m.place(parish));
        }
      }
      case 2, 3, 4 -> {
        int miles = random.nextInt(15);
        due.is(at + "way " + a + " " + b + " " + miles, x.way(a, b, miles), m.way(a, b, miles));
      }
      case 5 -> {
        int way = random.nextInt(6) - 1;
        due.is(at + "shut " + way + " " + d + " " + to, x.shut(way, d, to), m.shut(way, d, to));
      }
      case 6 -> {
        int pace = random.nextInt(5) == 0 ? random.nextInt(64) - 1 : 3 + random.nextInt(14);
        due.is(at + "pace " + pace, x.pace(pace) ? 1 : 0, m.pace(pace));
      }
      case 7 -> {
        if (m.about(4) < mostBoats) {
          due.is(at + "boat", x.boat(), m.boat());
        }
      }
      case 8 -> {
        int boat = boat();
        int proved = day();
        String call = at + "excuse " + boat + " " + d + " " + to + " " + proved;
        due.is(call, x.excuse(boat, d, to, proved), m.excuse(boat, d, to, proved));
      }
      case 9 -> {
        Rule rule = new Rule.Maker(random).make();
        int length = x.about(8);
        x.end(0);
        Due.tape(x, rule.text());
        due.is(at + "text " + rule.text(), x.text(), m.text(rule));
        due.is(at + "fault", x.fault(0) <= 0, true);
        due.is(at + "tape was " + length, x.about(8) == 0 || m.about(7) == 4, true);
      }
      case 10, 16 -> {
        int boat = boat();
        int rule = rule();
        int day = random.nextInt(3) == 0 ? random.nextInt(60) : k();
        String call = at + "send " + boat + " " + rule + " " + day;
        due.is(call, x.send(boat, rule, day), m.send(boat, rule, day));
      }
      case 11, 17 -> {
        int boat = boat();
        int day = random.nextInt(3) == 0 ? random.nextInt(60) : k();
        due.is(at + "appeal " + boat + " " + day, x.appeal(boat, day), m.appeal(boat, day));
      }
      case 12 -> {
        if (random.nextInt(6) == 0) {
          due.is(at + "image", x.image(), m.image());
        } else if (random.nextInt(12) == 0) {
          due.is(at + "back", x.back(), m.back());
        }
      }
      default -> {
        // Fewer sightings leave more journeys that are possible, days far apart too many.
        int boat = boat();
        d = random.nextInt(30) == 0 ? 60 + random.nextInt(9) : firstDay + random.nextInt(days);
        to = random.nextInt(20) == 0 ? d - 1 : Math.min(59, d + random.nextInt(4));
        if (m.about(5) < 4 + days || random.nextInt(10) == 0) {
          seen(at, boat, a, d, to);
        }
      }
    }
  }

  private void seen(String at, int boat, int anywhere, int day, int told) {
    boolean onPath = boat >= 0 && boat < 3 && day < 60 && random.nextInt(8) != 0;
    int other = random.nextInt(mostBoats);
    if (onPath && other != boat && random.nextInt(4) == 0) {
      seenAt(at, boat, paths[other][day], day, told);
      seenAt(at, other, paths[boat][day], day, told);
    } else {
      seenAt(at, boat, onPath ? paths[boat][day] : anywhere, day, told);
    }
  }

  private void seenAt(String at, int boat, int place, int day, int told) {
    String call = at + "seen " + boat + " " + place + " " + day + " " + told;
    due.is(call, x.seen(boat, place, day, told), m.seen(boat, place, day, told));
  }

  private void ask(String at) {
    int boat = boat();
    int other = boat();
    int place = place();
    int day = day();
    int k = k();
    int rule = rule();
    int what = bit();
    String of = at + "boat " + boat + " place " + place + " day " + day + " k " + k + " rule " + rule;
    switch (random.nextInt(16)) {
      case 0 -> {
        int from = random.nextInt(4) == 0 ? -1 : day;
        int to = place();
        due.is(of + " miles " + to, x.miles(from, place, to), m.miles(from, place, to));
      }
      case 1 -> due.is(of + " round", x.round(rule, place), m.round(rule, place));
      case 2 -> due.is(of + " may", x.may(boat, day, k), m.may(boat, day, k));
      case 3 -> {
        int which = random.nextInt(5);
        due.is(of + " known " + which, x.known(boat, k, which), m.known(boat, k, which));
      }
      case 4 -> due.is(of + " over", x.over(boat, place, rule, k), m.over(boat, place, rule, k));
      case 5, 6 ->
          due.is(
              of + " longest " + what,
              x.longest(boat, place, rule, k, what),
              m.longest(boat, place, rule, k, what));
      case 7 -> due.is(of + " far " + what, x.far(boat, k, what), m.far(boat, k, what));
      case 8 -> due.is(of + " shortOf", x.shortOf(boat, rule, k), m.shortOf(boat, rule, k));
      case 9 -> due.is(of + " broken", x.broken(boat, rule, k), m.broken(boat, rule, k));
      case 10 ->
          due.is(of + " look " + what, x.look(boat, day, k, what), m.look(boat, day, k, what));
      case 11 ->
          due.is(of + " crowd " + what, x.crowd(place, day, k, what), m.crowd(place, day, k, what));
      case 12 -> due.is(of + " tied " + other, x.tied(boat, other, k), m.tied(boat, other, k));
      case 13, 15 -> {
        int i = random.nextInt(3) != 0 ? -1 : random.nextInt(6) - 2;
        String call = of + " swapped " + other + " " + i;
        due.is(call, x.swapped(boat, other, k, i), m.swapped(boat, other, k, i));
      }
      default -> {
        int which = random.nextInt(30);
        if (which != 8) {
          due.is(at + "about " + which, x.about(which), m.about(which));
        }
      }
    }
  }
}
