import java.util.Arrays;
import java.util.Random;

/**
 * Full objects: ten places, fifteen ways, ten shut spans, sixty days. Journeys are too many to be
 * listed here, so the answers due are found by spreading plain states from day to day: all pairs of
 * a place and a sum of miles, all triples of a place, the stay it is in and the longest one.
 */
public final class LargeTest {
  private static final int RUNS = 400;
  private static final int NEVER = 9999;

  private final Random random;
  private final BoatsMoveOn x = new BoatsMoveOn();
  private final int[][] ways = new int[15][];
  private final int[][] shuts = new int[10][];
  private final int pace;
  private final int[][][] miles = new int[60][][];
  // Where each of two boats was seen on each day: a place, or -1.
  private final int[][] seen = new int[2][60];
  private final int[] firsts = {60, 60};
  private final int[] lasts = {-1, -1};
  private final boolean[] excused = new boolean[60];

  private LargeTest(int seed) {
    random = new Random(seed);
    pace = 3 + random.nextInt(25);
    x.pace(pace);
    for (int i = 0; i < 10; i++) {
      x.place(i % 4);
    }
    for (int i = 0; i < 15; i++) {
      int one = i < 9 ? i + 1 : random.nextInt(10);
      int other = i < 9 ? random.nextInt(i + 1) : (one + 1 + random.nextInt(9)) % 10;
      ways[i] = new int[] {one, other, 1 + random.nextInt(random.nextBoolean() ? 8 : 30)};
      x.way(one, other, ways[i][2]);
    }
    for (int i = 0; i < 10; i++) {
      int from = random.nextInt(60);
      int to = Math.min(59, from + random.nextInt(25));
      shuts[i] = new int[] {random.nextInt(15), from, to};
      x.shut(shuts[i][0], from, to);
    }
    for (int day = 0; day < 60; day++) {
      miles[day] = milesOf(day);
    }
    for (int boat = 0; boat < 2; boat++) {
      x.boat();
      tellOneJourney(boat);
    }
    for (int i = 0; i < 4; i++) {
      int from = random.nextInt(60);
      int to = Math.min(59, from + random.nextInt(6));
      Arrays.fill(excused, from, to + 1, true);
      x.excuse(0, from, to, 0);
    }
  }

  public static void main(String[] args) {
    Due due = new Due("LargeTest");
    for (int seed = 0; seed < RUNS && due.wrong() == 0; seed++) {
      LargeTest test = new LargeTest(seed);
      String run = "run " + seed + ": ";
      test.milesOfDays(due, run);
      test.places(due, run);
      test.far(due, run);
      test.stays(due, run);
      test.look(due, run);
      test.tied(due, run);
    }
    due.close();
  }

  private int[][] milesOf(int day) {
    int[][] least = new int[10][10];
    for (int[] row : least) {
      Arrays.fill(row, NEVER);
    }
    for (int from = 0; from < 10; from++) {
      least[from][from] = 0;
      for (int round = 0; round < 10; round++) {
        for (int i = 0; i < 15; i++) {
          if (isShut(i, day)) {
            continue;
          }
          int one = ways[i][0];
          int other = ways[i][1];
          least[from][one] = Math.min(least[from][one], least[from][other] + ways[i][2]);
          least[from][other] = Math.min(least[from][other], least[from][one] + ways[i][2]);
        }
      }
    }
    return least;
  }

  private boolean isShut(int way, int day) {
    for (int[] shut : shuts) {
      if (shut[0] == way && shut[1] <= day && day <= shut[2]) {
        return true;
      }
    }
    return false;
  }

  /** The boat goes somewhere by the rules and is seen at times, so that it is possible. */
  private void tellOneJourney(int boat) {
    Arrays.fill(seen[boat], -1);
    int at = random.nextInt(10);
    int from = random.nextInt(8);
    int to = 59 - random.nextInt(8);
    int seldom = 2 + random.nextInt(9);
    for (int day = from; day <= to; day++) {
      int next = random.nextInt(10);
      at = miles[day][at][next] <= pace && random.nextInt(3) == 0 ? next : at;
      boolean isSeen = day == from || day == to || random.nextInt(seldom) == 0;
      // There may be sixty of them already.
      if (isSeen && x.seen(boat, at, day, day) > 0) {
        seen[boat][day] = at;
        firsts[boat] = Math.min(firsts[boat], day);
        lasts[boat] = Math.max(lasts[boat], day);
      }
    }
  }

  private boolean fits(int boat, int day, int place) {
    return seen[boat][day] < 0 || seen[boat][day] == place;
  }

  private boolean follows(int day, int from, int to) {
    return miles[day][from][to] <= pace;
  }

  /** Places on each day, one place of one day being the only one, or barred, or neither. */
  private boolean[][] may(int boat, int onDay, int place, boolean barred) {
    boolean[][] to = new boolean[60][10];
    boolean[][] from = new boolean[60][10];
    int first = firsts[boat];
    int last = lasts[boat];
    for (int i = 0; i <= last - first; i++) {
      int day = first + i;
      int back = last - i;
      for (int p = 0; p < 10; p++) {
        boolean free = day != onDay || (p == place) != barred;
        boolean freeBack = back != onDay || (p == place) != barred;
        for (int q = 0; q < 10; q++) {
          to[day][p] |= free && fits(boat, day, p)
              && (i == 0 || (to[day - 1][q] && follows(day, q, p)));
          from[back][p] |= freeBack && fits(boat, back, p)
              && (i == 0 || (from[back + 1][q] && follows(back + 1, p, q)));
        }
      }
    }
    for (int day = first; day <= last; day++) {
      for (int p = 0; p < 10; p++) {
        to[day][p] &= from[day][p];
      }
    }
    return to;
  }

  private int doubt(int boat, boolean[][] may) {
    int sum = 0;
    for (int day = firsts[boat]; day <= lasts[boat]; day++) {
      int count = 0;
      for (boolean there : may[day]) {
        count += there ? 1 : 0;
      }
      if (count == 0) {
        return 0;
      }
      sum += count - 1;
    }
    return sum;
  }

  private void milesOfDays(Due due, String run) {
    for (int i = 0; i < 200; i++) {
      int day = random.nextInt(60);
      int from = random.nextInt(10);
      int to = random.nextInt(10);
      int want = miles[day][from][to];
      due.is(run + "miles", x.miles(day, from, to), want >= NEVER ? -1 : want);
    }
  }

  private void places(Due due, String run) {
    for (int boat = 0; boat < 2; boat++) {
      boolean[][] may = may(boat, -1, 0, false);
      for (int day = 0; day < 60; day++) {
        int bits = 0;
        for (int p = 0; p < 10; p++) {
          bits |= may[day][p] ? 1 << p : 0;
        }
        due.is(run + "may " + boat + " " + day, x.may(boat, day, 59), bits);
      }
      due.is(run + "doubt", x.known(boat, 59, 3), doubt(boat, may));
      due.is(run + "possible", x.known(boat, 59, 2), 0);
    }
  }

  private void far(Due due, String run) {
    boolean[][] sums = new boolean[10][4000];
    sums[seen[0][firsts[0]]][0] = true;
    for (int day = firsts[0] + 1; day <= lasts[0]; day++) {
      boolean[][] next = new boolean[10][4000];
      for (int from = 0; from < 10; from++) {
        for (int to = 0; to < 10; to++) {
          if (!fits(0, day, to) || !follows(day, from, to)) {
            continue;
          }
          for (int sum = 0; sum + 60 < 4000; sum++) {
            next[to][sum + miles[day][from][to]] |= sums[from][sum];
          }
        }
      }
      sums = next;
    }
    boolean[] ends = sums[seen[0][lasts[0]]];
    int least = 0;
    while (!ends[least]) {
      least++;
    }
    int most = 3999;
    while (!ends[most]) {
      most--;
    }
    due.is(run + "the least miles", x.far(0, 59, 0), least);
    due.is(run + "the most miles", x.far(0, 59, 1), most);
  }

  private void stays(Due due, String run) {
    int near = random.nextInt(20);
    int limit = random.nextInt(30);
    int since = random.nextInt(60);
    int rule = Due.tell(x, "near miles<" + near + " or theirs=parish;stay " + limit
        + ";excuse day>" + since + " and here/3*3=here;");
    for (int h = 0; h < 10; h += 3) {
      boolean[] round = new boolean[10];
      for (int p = 0; p < 10; p++) {
        int open = x.miles(-1, h, p);
        round[p] = p == h || p % 4 == h % 4 || (open >= 0 && open < near);
      }
      int[] ends = longest(round, since);
      due.is(run + "at least round " + h, x.longest(0, h, rule, 59, 0), ends[0]);
      due.is(run + "at most round " + h, x.longest(0, h, rule, 59, 1), ends[1]);
      int over = ends[0] > limit ? 2 : ends[1] > limit ? 1 : 0;
      due.is(run + "over round " + h, x.over(0, h, rule, 59), over);
    }
  }

  /** The least and the greatest longest stay, of all that a journey can have. */
  private int[] longest(boolean[] round, int since) {
    boolean[][][] states = null;
    for (int day = firsts[0]; day <= lasts[0]; day++) {
      boolean[][][] next = new boolean[10][61][61];
      for (int p = 0; p < 10; p++) {
        if (!fits(0, day, p)) {
          continue;
        }
        int more = excused[day] || (day > since && p / 3 * 3 == p) ? 0 : 1;
        if (states == null) {
          int stay = round[p] ? more : 0;
          next[p][stay][stay] = true;
          continue;
        }
        for (int q = 0; q < 10; q++) {
          if (follows(day, q, p)) {
            spread(states[q], next[p], round[p], more);
          }
        }
      }
      states = next;
    }
    int[] ends = {61, -1};
    for (boolean[][] place : states) {
      for (boolean[] stay : place) {
        for (int longest = 0; longest < stay.length; longest++) {
          if (stay[longest]) {
            ends[0] = Math.min(ends[0], longest);
            ends[1] = Math.max(ends[1], longest);
          }
        }
      }
    }
    return ends;
  }

  private static void spread(boolean[][] from, boolean[][] to, boolean round, int more) {
    for (int stay = 0; stay <= 60; stay++) {
      for (int longest = stay; longest <= 60; longest++) {
        if (from[stay][longest]) {
          int now = round ? stay + more : 0;
          to[now][Math.max(longest, now)] = true;
        }
      }
    }
  }

  private void look(Due due, String run) {
    for (int i = 0; i < 4; i++) {
      int day = firsts[0] + random.nextInt(lasts[0] - firsts[0] + 1);
      boolean[][] may = may(0, -1, 0, false);
      int best = -1;
      int least = Integer.MAX_VALUE;
      for (int p = 0; p < 10; p++) {
        int there = doubt(0, may(0, day, p, false));
        int not = doubt(0, may(0, day, p, true));
        if (may[day][p] && Math.max(there, not) < least) {
          best = p;
          least = Math.max(there, not);
        }
      }
      due.is(run + "look on " + day, x.look(0, day, 59, 0), best);
      due.is(run + "doubt by it", x.look(0, day, 59, 1), least);
    }
  }

  /** All pairs of places of two boats that were together on each day so far. */
  private void tied(Due due, String run) {
    int from = Math.max(firsts[0], firsts[1]);
    int to = Math.min(lasts[0], lasts[1]);
    boolean[][] one = may(0, -1, 0, false);
    boolean[][] other = may(1, -1, 0, false);
    boolean[] together = new boolean[10];
    for (int day = from; day <= to; day++) {
      boolean[] next = new boolean[10];
      for (int p = 0; p < 10; p++) {
        for (int q = 0; q < 10; q++) {
          boolean ahead = day == from || (together[q] && follows(day, q, p));
          next[p] |= ahead && one[day][p] && other[day][p];
        }
      }
      together = next;
    }
    int want = 0;
    for (boolean can : together) {
      want |= can ? 1 : 0;
    }
    due.is(run + "tied", x.tied(0, 1, 59), want);
    due.is(run + "tied the other way round", x.tied(1, 0, 59), want);
  }
}
